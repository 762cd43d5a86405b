/-! THE PURE LAYER, 9: the class's moving, its end -/
theorem jn_in {α : Type} {K : α} {B : α → Prop} (h : ∀ k, k = K → B k) : jn K B := h K rfl
theorem m_mwork {zz : Nat → Nat} {s t0 t1 : Nat} {h : AH} {Q : AH → Prop} {c0 c1 st : Nat → Int} {σ : PT} (S : St h s t0 t1 c0 c1 st) (P : PK h s) (M : MvK h s) (R : PR h s σ) (O : PO h s (Nc c0) (Nc c1) σ) (w : pw (Nc c0) (Nc c1) σ) (hst : GS st) (h0 : Nc c0 ≤ 40) (h1 : Nc c1 ≤ 40) (q : ∀ (F : Nat) (h' : AH), Fr h h' (s + 21) (s + 30) → isF (Nc c0) (glA c1 σ) (fun k => (Lc c0 k : Int)) (st 4) (st 5) (if 0 < cK σ.2.2.1 (Nc c0) 3 then 1 else 0) F → F ≤ 190 → MR h' s F (Nc c0) (glA c1 σ) (fun k => (Lc c0 k : Int)) (st 4) (st 5) → Q h') : w_X2_work zz (s + 21) h Q := by
  have lo := S.1.2.2.2.2.2.1
  have hp9 := hst.2.2.2.2.2.1
  obtain ⟨n, hn⟩ : ∃ n, n = Nc c0 := ⟨_, rfl⟩
  obtain ⟨gl, hgl⟩ : ∃ gl, gl = glA c1 σ := ⟨_, rfl⟩
  obtain ⟨s0, hs0⟩ : ∃ s0, s0 = fun k => (Lc c0 k : Int) := ⟨_, rfl⟩
  have G : ∀ k, k < n → gl k = -1 ∨ 0 ≤ gl k ∧ gl k < 80 := fun k hk => by
    rw [hgl]
    rcases glA_ok w k (by omega) with h | h
    · exact .inl h.1
    · exact .inr h.1
  have SS : ∀ k, k < n → 0 ≤ s0 k ∧ s0 k < 80 := fun k hk => by
    rw [hs0]; have := Lc_lt (show k < Nc c0 by omega)
    show 0 ≤ (Lc c0 k : Int) ∧ (Lc c0 k : Int) < 80
    omega
  unfold w_X2_work
  refine ⟨by rw [okA_of M.1], ?_⟩
  refine m_mstart S P M R w h0 h1 (fun g Fg y3 Vg Hg => ?_)
  rw [← hn, ← hgl, ← hs0] at Vg Hg q
  have Mg := M.fr Fg
  have lg : hlo g ≤ s := by rw [Fg.lo]; exact lo
  refine ⟨by rw [okA_of Mg.1], m_record (t := 0) Mg lg (by omega) ?_⟩
  have T0 := TR.rec (t := 0) Vg (by omega) (fun u k hu => by omega)
  have F1 : Fr h (saI g (s + 29) (cpI (haI g (s + 25)) (haI g (s + 29)) 0 (((0 : Nat) : Int) * 40) 40)) (s + 21) (s + 30) := (Fg.wide (a' := s + 21) (b' := s + 30) (by omega) (by omega)).tsa (by omega) (by omega)
  have V1 := Vg.fr (a := s + 29) (b := s + 30) (Fr.sa (q := s + 29) (f := cpI (haI g (s + 25)) (haI g (s + 29)) 0 (((0 : Nat) : Int) * 40) 40) (by omega) (by omega)) (by omega)
  have H1 : HQ (saI g (s + 29) (cpI (haI g (s + 25)) (haI g (s + 29)) 0 (((0 : Nat) : Int) * 40) 40)) s 0 n gl s0 (st 4) (st 5) := ⟨Hg.1, fun u hu => by rw [haI_saI, if_neg (by omega)]; exact Hg.2 u hu⟩
  have y3' : hfI (saI g (s + 29) (cpI (haI g (s + 25)) (haI g (s + 29)) 0 (((0 : Nat) : Int) * 40) 40)) (s + 21) 3 = 0 := y3
  revert T0 F1 V1 H1 y3'
  generalize saI g (s + 29) (cpI (haI g (s + 25)) (haI g (s + 29)) 0 (((0 : Nat) : Int) * 40) 40) = g1
  intro T0 F1 V1 H1 y3'
  clear Mg lg Fg Vg Hg y3
  obtain ⟨tt, htt⟩ : ∃ tt : Nat, tt = if 0 < cK σ.2.2.1 n 3 then 1 else 0 := ⟨_, rfl⟩
  have htt1 : tt ≤ 1 := by rw [htt]; split <;> omega
  rw [← htt] at q
  have M1 := M.fr F1
  have P1 := P.fr F1
  have S1 := S.fr F1 (by omega)
  have O1 := O.fr F1 (by omega)
  refine ⟨by rw [okA_of M1.1], ?_⟩
  refine jn_in (fun K hK => ?_)
  have loop : ∀ m0 : Int, (m0 = if 0 < tt ∨ 0 < cG gl (mfr n gl s0 (st 4) (st 5) 0).1 n then 1 else 0) → K m0 g1 := by
    intro m0 hm0
    rw [hK]
    obtain ⟨I, hI⟩ : ∃ I : Nat → Int → Int → AH → Prop, ∀ m x1 x2 h', I m x1 x2 h' ↔ ∃ t : Nat, t ≤ 190 ∧ m = 191 - t ∧ x2 = (t : Int) + 1 ∧ (x1 = if t < tt ∨ 0 < cG gl (mfr n gl s0 (st 4) (st 5) t).1 n then 1 else 0) ∧ Fr h h' (s + 21) (s + 30) ∧ MR h' s t n gl s0 (st 4) (st 5) ∧ ∀ u, tt ≤ u → u < t → 0 < cG gl (mfr n gl s0 (st 4) (st 5) u).1 n := ⟨_, fun _ _ _ _ => Iff.rfl⟩
    refine ⟨I, ⟨_, (hI _ _ _ _).mpr ⟨0, by omega, rfl, rfl, hm0, F1, ⟨y3', V1, H1, T0⟩, fun u h1 h2 => by omega⟩⟩, ?_⟩
    intro m x1 x2 h' hi9
    obtain ⟨t, ht, rfl, rfl, hx1, F, ⟨D1, D2, D3, D4⟩, D5⟩ := (hI _ _ _ _).mp hi9
    rw [jn_def]
    have fin : tt ≤ t → cG gl (mfr n gl s0 (st 4) (st 5) t).1 n = 0 → Q h' := fun h1 h2 => q t h' F ⟨h1, h2, D5⟩ ht ⟨D1, D2, D3, D4⟩
    refine ⟨fun hc => fin (by omega) (mfr_end hp9 G SS (by omega)), fun hc => ⟨fun hz => ?_, fun hz => ?_⟩⟩
    · by_cases e : t < tt ∨ 0 < cG gl (mfr n gl s0 (st 4) (st 5) t).1 n
      · rw [if_pos e] at hx1; omega
      · exact fin (by omega) (by omega)
    · have hgo : t < tt ∨ 0 < cG gl (mfr n gl s0 (st 4) (st 5) t).1 n := by
        by_cases e : t < tt ∨ 0 < cG gl (mfr n gl s0 (st 4) (st 5) t).1 n
        · exact e
        · rw [if_neg e] at hx1; exact absurd hx1 hz
      have M2 := M.fr F
      have l2 : hlo h' ≤ s := by rw [F.lo]; exact lo
      refine ⟨by rw [okP_of M2.1]; exact ⟨rfl, by omega⟩, ?_⟩
      intro g2 e2
      have Fa : Fr h' g2 (s + 21) (s + 22) := by rw [e2]; exact Fr.sf (by omega) (by omega)
      have F2 := F.trans (Fa.wide (a' := s + 21) (b' := s + 30) (by omega) (by omega))
      have y2 : hfI g2 (s + 21) 3 = (t : Int) + 1 := by rw [e2, hfI_sfI, if_pos rfl, if_pos rfl]
      have y4 : hfI g2 (s + 21) 4 = hfI h' (s + 21) 4 := by rw [e2, hfI_sfI, if_pos rfl, if_neg (by omega)]
      have y12 : hfI g2 (s + 21) 12 = hfI h' (s + 21) 12 := by rw [e2, hfI_sfI, if_pos rfl, if_neg (by omega)]
      have ya : haI g2 = haI h' := by rw [e2]; rfl
      have M3 := M.fr F2
      have S3 := S.fr F2 (by omega)
      have V3 : MV g2 s (Nc c0) gl (mfr (Nc c0) gl s0 (st 4) (st 5) t) := by
        rw [← hn]
        obtain ⟨a1, a2, a3⟩ := D2
        exact ⟨by rw [ya]; exact a1, by rw [ya]; exact a2, by rw [y12]; exact a3⟩
      have hb := mht_le (w := st 4) hp9 G SS t
      have hb2 : mht n gl s0 (st 4) (st 5) t ≤ 40 * 190 := Nat.le_trans hb (Nat.mul_le_mul (by omega) ht)
      have H3 : MH g2 s (t + 1) 0 (mht n gl s0 (st 4) (st 5) t) (fun u => if 1 ≤ u ∧ u ≤ t then (mfr n gl s0 (st 4) (st 5) u).2.2.2.2 else 0) := by
        refine ⟨by rw [y4, D3.1]; omega, fun u hu => ?_, by rw [y2]; omega⟩
        rw [ya, D3.2 u hu]
        by_cases e1 : u = t + 1
        · rw [if_pos e1, if_neg (by omega)]; rfl
        · rw [if_neg e1]
          show _ = (((if 1 ≤ u ∧ u ≤ t then (mfr n gl s0 (st 4) (st 5) u).2.2.2.2 else 0 : Nat)) : Int)
          split <;> rfl
      refine m_movePieces S3 M3 h0 (by omega) (by omega) hst (by rw [← hn]; exact G) (by rw [← hn]; exact SS) V3 H3 (fun g4 F4 V4 H4 => ?_)
      rw [← hn] at V4 H4
      have F5 := F2.trans (F4.wide (a' := s + 21) (b' := s + 30) (by omega) (by omega))
      have M5 := M.fr F5
      have l5 : hlo g4 ≤ s := by rw [F5.lo]; exact lo
      have y5 : hfI g4 (s + 21) 3 = (t : Int) + 1 := by rw [H4.2.2]; omega
      have T5 : ∀ u k : Nat, u < t + 1 → k < n → haI g4 (s + 29) ((u : Int) * 40 + (k : Int)) = (mfr n gl s0 (st 4) (st 5) u).1 k := fun u k hu hk => by
        rw [F4.ai (by omega), ya]; exact D4 u k (by omega) hk
      refine ⟨by rw [okA_of M5.1], m_record (t := t + 1) M5 l5 (by omega) ?_⟩
      have T6 := TR.rec V4 (by omega) T5
      have V6 := V4.fr (a := s + 29) (b := s + 30) (Fr.sa (q := s + 29) (f := cpI (haI g4 (s + 25)) (haI g4 (s + 29)) 0 (((t + 1 : Nat) : Int) * 40) 40) (by omega) (by omega)) (by omega)
      have F6 : Fr h (saI g4 (s + 29) (cpI (haI g4 (s + 25)) (haI g4 (s + 29)) 0 (((t + 1 : Nat) : Int) * 40) 40)) (s + 21) (s + 30) := F5.tsa (by omega) (by omega)
      have M6 := M.fr F6
      have H6 : HQ (saI g4 (s + 29) (cpI (haI g4 (s + 25)) (haI g4 (s + 29)) 0 (((t + 1 : Nat) : Int) * 40) 40)) s (t + 1) n gl s0 (st 4) (st 5) := by
        refine ⟨?_, fun u hu => ?_⟩
        · show hfI g4 (s + 21) 4 = _
          rw [H4.1]; show _ = ((mht n gl s0 (st 4) (st 5) t + (mfr n gl s0 (st 4) (st 5) (t + 1)).2.2.2.2 : Nat) : Int); omega
        · rw [haI_saI, if_neg (by omega), H4.2.1 u hu]
          by_cases e1 : u = t + 1
          · rw [if_pos e1, if_pos (by omega), e1]
          · rw [if_neg e1]
            show (((if 1 ≤ u ∧ u ≤ t then (mfr n gl s0 (st 4) (st 5) u).2.2.2.2 else 0 : Nat)) : Int) = _
            by_cases e3 : 1 ≤ u ∧ u ≤ t
            · rw [if_pos e3, if_pos (by omega)]
            · rw [if_neg e3, if_neg (by omega)]; rfl
      have y6 : hfI (saI g4 (s + 29) (cpI (haI g4 (s + 25)) (haI g4 (s + 29)) 0 (((t + 1 : Nat) : Int) * 40) 40)) (s + 21) 3 = ((t + 1 : Nat) : Int) := by
        rw [hfI_saI, y5]; omega
      revert T6 V6 F6 M6 H6 y6
      generalize saI g4 (s + 29) (cpI (haI g4 (s + 25)) (haI g4 (s + 29)) 0 (((t + 1 : Nat) : Int) * 40) 40) = g6
      intro T6 V6 F6 M6 H6 y6
      have next : ∀ m1 : Int, (m1 = if 0 < cG gl (mfr n gl s0 (st 4) (st 5) (t + 1)).1 n then 1 else 0) → inR ((t : Int) + 1 + 1) ∧ ∀ x2_75 : Int, x2_75 = ((t : Int) + 1 + 1) → ∃ m, m < 191 - t ∧ I m m1 x2_75 g6 := by
        intro m1 hm1
        refine ⟨by unfold inR; omega, ?_⟩
        intro x ex
        by_cases et : t < 190
        · refine ⟨191 - (t + 1), by omega, (hI _ _ _ _).mpr ⟨t + 1, by omega, rfl, by omega, ?_, F6, ⟨y6, V6, H6, T6⟩, fun u h1 h2 => ?_⟩⟩
          · rw [hm1]
            by_cases e3 : 0 < cG gl (mfr n gl s0 (st 4) (st 5) (t + 1)).1 n
            · rw [if_pos e3, if_pos (.inr e3)]
            · rw [if_neg e3, if_neg (by omega)]
          · by_cases e4 : u = t
            · subst e4; omega
            · exact D5 u h1 (by omega)
        · exact absurd hc (by omega)
      refine ⟨by rw [okA_of M6.1], ?_⟩
      rw [jn_def, V6.2.2]
      refine ⟨fun hle => next 0 (by rw [if_neg (by omega)]), fun hgt => next 1 (by rw [if_pos (by omega)])⟩
  have e12 := V1.2.2
  have o3 := O1.2.2.1
  rw [← hn] at o3
  clear hK
  obtain ⟨v0, v1, v2, v3, v4, v5, v6, v7, v8, w0, w1, w2, w3, w4, w5, w6, w7, w8, w9⟩ := M1
  obtain ⟨p0, p1, p2, p3, p4, p5, p6, q0, q1, q2, q3, q4, q5, q6⟩ := P1
  simp only [jn_def, okA, okI, pair_ex, some_ex, v0, v1, v2, v3, v4, v5, v6, v7, v8, w0, w1, w2, w3, w4, w5, w6, w7, w8, w9, p0, p1, p2, p3, p4, p5, p6, q0, q1, q2, q3, q4, q5, q6, Nat.add_left_cancel_iff, Nat.reduceEqDiff, Nat.add_eq_left, Nat.left_eq_add, if_true, if_false, Nat.reduceAdd, true_and, and_true, Nat.one_ne_zero, Nat.succ_ne_self, e12, o3]
  refine ⟨fun hc => loop 1 (by rw [if_pos (.inr (by omega))]), fun hc => ⟨⟨by omega, by omega⟩, fun hc2 => loop 0 (by rw [if_neg]; rw [htt, if_neg (by omega)]; omega), fun hc2 => loop 1 (by rw [if_pos]; left; rw [htt, if_pos (by omega)]; omega)⟩⟩
