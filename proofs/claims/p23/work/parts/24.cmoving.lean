/-! THE PURE LAYER, 8: the class's moving, whole -/
theorem mst_no {n : Nat} {gl : Nat → Int} {w p : Int} {t : Nat} {z : MT} {k : Nat} (h : ¬ (gl k ≠ -1 ∧ z.1 k ≠ gl k)) : mst n gl w p t z k = z := if_neg h
/-- a piece is away: its goal and cell -/
theorem m_isAway {zz : Nat → Nat} {s k : Nat} {h : AH} {Q : Int → AH → Prop} {g c : Int} (M : MvK h s) (lo : hlo h ≤ s) (hk : k < 40) (hg : haI h (s + 22) (k : Int) = g) (hc : haI h (s + 25) (k : Int) = c) (q0 : ¬ (g ≠ -1 ∧ c ≠ g) → Q 0 h) (q1 : g ≠ -1 ∧ c ≠ g → Q 1 h) : w_X2_isAway zz (s + 21) (k : Int) h Q := by
  obtain ⟨v0, v1, v2, v3, v4, v5, v6, v7, v8, w0, w1, w2, w3, w4, w5, w6, w7, w8, w9⟩ := M
  unfold w_X2_isAway
  simp only [okA, okI, jn_def, pair_ex, some_ex, v0, v1, v2, v3, v4, v5, v6, v7, v8, w0, w1, w2, w3, w4, w5, w6, w7, w8, w9, Nat.add_left_cancel_iff, Nat.reduceEqDiff, Nat.add_eq_left, Nat.left_eq_add, if_true, if_false, Nat.reduceAdd, true_and, and_true, Nat.one_ne_zero, Nat.succ_ne_self, hg, hc]
  refine ⟨⟨by omega, by omega⟩, fun hb => ⟨by simp, q0 (fun h => h.1 hb)⟩, fun hb => ⟨⟨by omega, by omega⟩, ⟨by omega, by omega⟩, fun hb2 => ⟨by simp, q0 (fun h => h.2 hb2)⟩, fun hb2 => ⟨by simp, q1 ⟨hb, hb2⟩⟩⟩⟩
/-- the pieces in a frame of moving: the loop in work -/
def w_pcs (zz : Nat → Nat) (a0 : Nat) (a1 : Int) (h : AH) (Q : AH → Prop) : Prop := ∃ I : Nat → Int → AH → Prop, (∃ n, I n (0 : Int) h) ∧ ∀ (n : Nat) (x : Int) (g : AH), I n x g → (okA g a0 2 ∧ ∃ b : Nat, hfR g a0 5 = some b ∧ okA g b 4 ∧ w_X4_text zz b (0 : Int) g (fun (r : Nat) (h1 : AH) => okA h1 r 5 ∧ (((hfI h1 r 2) ≤ x) → Q h1) ∧ ((¬ ((hfI h1 r 2) ≤ x)) → okA h1 a0 2 ∧ w_X2_isAway zz a0 x h1 (fun (r1 : Int) (h2 : AH) => jn (fun (h3 : AH) => inR (x + 1) ∧ ∀ y : Int, y = (x + 1) → ∃ m, m < n ∧ I m y h3) (fun k : AH → Prop => ((r1 = 0) → k h2) ∧ ((¬ (r1 = 0)) → okA h2 a0 2 ∧ w_X2_moveOrHold zz a0 x a1 h2 (fun (h4 : AH) => k h4)))))))
theorem m_movePieces {zz : Nat → Nat} {s t0 t1 t T : Nat} {gl s0 : Nat → Int} {hp : Nat → Nat} {h : AH} {Q : AH → Prop} {c0 c1 st : Nat → Int} (S : St h s t0 t1 c0 c1 st) (M : MvK h s) (hn : Nc c0 ≤ 40) (ht : t + 1 ≤ 190) (hT : T ≤ 10000) (hst : GS st) (hgl : ∀ k, k < Nc c0 → gl k = -1 ∨ 0 ≤ gl k ∧ gl k < 80) (hs0 : ∀ k, k < Nc c0 → 0 ≤ s0 k ∧ s0 k < 80) (V : MV h s (Nc c0) gl (mfr (Nc c0) gl s0 (st 4) (st 5) t)) (H : MH h s (t + 1) 0 T hp) (q : ∀ h' : AH, Fr h h' (s + 21) (s + 29) → MV h' s (Nc c0) gl (mfr (Nc c0) gl s0 (st 4) (st 5) (t + 1)) → MH h' s (t + 1) (mfr (Nc c0) gl s0 (st 4) (st 5) (t + 1)).2.2.2.2 T hp → Q h') : w_pcs zz (s + 21) ((t + 1 : Nat) : Int) h Q := by
  have S0 := S
  have M0 := M
  have hp9 := hst.2.2.2.2.2.1
  have mk := (mfr_k (w := st 4) hp9 hgl hs0 t).1
  have sw := msw_k (w := st 4) hp9 hgl (z := mrs (mfr (Nc c0) gl s0 (st 4) (st 5) t)) (t := t) (fun k hk => MK_cong (z := mfr (Nc c0) gl s0 (st 4) (st 5) t) ⟨rfl, rfl, rfl, rfl⟩ (mk k hk))
  unfold w_pcs
  obtain ⟨I, hI⟩ : ∃ I : Nat → Int → AH → Prop, ∀ m x h', I m x h' ↔ ∃ k : Nat, k ≤ Nc c0 ∧ m = Nc c0 - k ∧ x = (k : Int) ∧ Fr h h' (s + 21) (s + 29) ∧ MV h' s (Nc c0) gl (msw (Nc c0) gl (st 4) (st 5) (t + 1) (mrs (mfr (Nc c0) gl s0 (st 4) (st 5) t)) k) ∧ MH h' s (t + 1) (msw (Nc c0) gl (st 4) (st 5) (t + 1) (mrs (mfr (Nc c0) gl s0 (st 4) (st 5) t)) k).2.2.2.2 T hp := ⟨_, fun _ _ _ => Iff.rfl⟩
  refine ⟨I, ⟨_, (hI _ _ _).mpr ⟨0, by omega, rfl, rfl, Fr.refl _ _ _, V, H⟩⟩, ?_⟩
  intro m x h' hi9
  obtain ⟨k, hk, rfl, rfl, F, V1, H1⟩ := (hI _ _ _).mp hi9
  have S1 := S0.fr F (by omega)
  have M1 := M0.fr F
  have S2 := S1
  have M2 := M1
  obtain ⟨⟨a0, a1, a2, a3, a4, a5, a6⟩, ⟨⟨b0, b1, b2, b3, b4, b5⟩, b6, b7, b8⟩, ⟨⟨d0, d1, d2, d3, d4, d5⟩, d6, d7, d8⟩, a9⟩ := S1
  obtain ⟨v0, v1, v2, v3, v4, v5, v6, v7, v8, w0, w1, w2, w3, w4, w5, w6, w7, w8, w9⟩ := M1
  simp only [txt0, okA, okI, jn_def, pair_ex, some_ex, forall_eq, a0, a1, a2, a3, a4, b0, b1, b2, b3, b4, b7, d0, d1, d2, d3, d4, d7, v0, v1, v2, v3, v4, v5, v6, v7, v8, w0, w1, w2, w3, w4, w5, w6, w7, w8, w9, Nat.add_left_cancel_iff, Nat.reduceEqDiff, Nat.add_eq_left, Nat.left_eq_add, if_true, if_false, Nat.reduceAdd, true_and, and_true, Nat.one_ne_zero, Nat.succ_ne_self]
  refine ⟨fun hc => ?_, fun hc => ?_⟩
  · obtain rfl : k = Nc c0 := by omega
    exact q h' F V1 H1
  · have hk9 : k < Nc c0 := by omega
    obtain ⟨x1, x2, x3, x4, x5⟩ := V1.1 k hk9
    have m1 := (sw k hk).2.1 k (Nat.le_refl _) hk9
    have m2 := (sw k hk).2.2
    have e0 : (mrs (mfr (Nc c0) gl s0 (st 4) (st 5) t)).2.2.2.2 = 0 := rfl
    obtain ⟨n1, n2, n3, n4, n5⟩ := m1
    have step : msw (Nc c0) gl (st 4) (st 5) (t + 1) (mrs (mfr (Nc c0) gl s0 (st 4) (st 5) t)) (k + 1) = mst (Nc c0) gl (st 4) (st 5) (t + 1) (msw (Nc c0) gl (st 4) (st 5) (t + 1) (mrs (mfr (Nc c0) gl s0 (st 4) (st 5) t)) k) k := rfl
    have stay : ¬ (gl k ≠ -1 ∧ (msw (Nc c0) gl (st 4) (st 5) (t + 1) (mrs (mfr (Nc c0) gl s0 (st 4) (st 5) t)) k).1 k ≠ gl k) → inR ((k : Int) + 1) ∧ ∃ m, m < Nc c0 - k ∧ I m ((k : Int) + 1) h' := by
      intro hno
      have e := mst_no (n := Nc c0) (w := st 4) (p := st 5) (t := t + 1) hno
      rw [e] at step
      exact ⟨by unfold inR; omega, Nc c0 - (k + 1), by omega, (hI _ _ _).mpr ⟨k + 1, by omega, rfl, by omega, F, by rw [step]; exact V1, by rw [step]; exact H1⟩⟩
    generalize hZ : msw (Nc c0) gl (st 4) (st 5) (t + 1) (mrs (mfr (Nc c0) gl s0 (st 4) (st 5) t)) k = Z at x1 x2 x3 x4 x5 n1 n2 n3 n4 n5 m2 step stay V1 H1
    refine m_isAway M2 S2.1.2.2.2.2.2.1 (by omega) x1 x2 (fun hno => ⟨fun _ => stay hno, fun h => absurd rfl h⟩) (fun hyes => ⟨fun h => absurd h (by omega), fun _ => ⟨by rw [M2.1], ?_⟩⟩)
    have hb := hyes.1
    have hb2 := hyes.2
    have hg : 0 ≤ gl k ∧ gl k < 80 := by rcases hgl k hk9 with h | h
                                         · exact absurd h hb
                                         · exact h
    refine m_moh S2 M2 hn hk9 (by omega) hT V1 H1 hg ⟨n1, by omega, by omega⟩ (by omega) hb2 (fun g F2 V2 H2 => ?_)
    exact ⟨by unfold inR; omega, Nc c0 - (k + 1), by omega, (hI _ _ _).mpr ⟨k + 1, by omega, rfl, by omega, F.trans F2, by rw [step]; exact V2, by rw [step]; exact H2⟩⟩
theorem m_record {zz : Nat → Nat} {s t : Nat} {h : AH} {Q : AH → Prop} (M : MvK h s) (lo : hlo h ≤ s) (ht : t ≤ 190) (q : Q (saI h (s + 29) (cpI (haI h (s + 25)) (haI h (s + 29)) 0 ((t : Int) * 40) 40))) : w_X2_record zz (s + 21) (t : Int) h Q := by
  obtain ⟨v0, v1, v2, v3, v4, v5, v6, v7, v8, w0, w1, w2, w3, w4, w5, w6, w7, w8, w9⟩ := M
  unfold w_X2_record
  simp only [okA, pair_ex, some_ex, forall_eq, v0, v1, v2, v3, v4, v5, v6, v7, v8, w0, w1, w2, w3, w4, w5, w6, w7, w8, w9, Nat.add_left_cancel_iff, Nat.reduceEqDiff, Nat.add_eq_left, Nat.left_eq_add, if_true, if_false, Nat.reduceAdd, true_and, and_true, Nat.one_ne_zero, Nat.succ_ne_self, inR]
  refine ⟨⟨by omega, by omega⟩, ⟨40, 7640, v4, ⟨v8, by omega⟩, by omega, by omega, by omega, by omega, by omega⟩, q⟩
/-- what is told of the moving -/
def HQ (h : AH) (s : Nat) (t : Nat) (n : Nat) (gl s0 : Nat → Int) (w p : Int) : Prop := hfI h (s + 21) 4 = (mht n gl s0 w p t : Int) ∧ ∀ u : Nat, u ≤ 190 → haI h (s + 28) u = if 1 ≤ u ∧ u ≤ t then ((mfr n gl s0 w p u).2.2.2.2 : Int) else 0
def TR (h : AH) (s : Nat) (t : Nat) (n : Nat) (gl s0 : Nat → Int) (w p : Int) : Prop := ∀ u k : Nat, u ≤ t → k < n → haI h (s + 29) ((u : Int) * 40 + (k : Int)) = (mfr n gl s0 w p u).1 k
def MR (h : AH) (s : Nat) (F : Nat) (n : Nat) (gl s0 : Nat → Int) (w p : Int) : Prop := hfI h (s + 21) 3 = (F : Int) ∧ MV h s n gl (mfr n gl s0 w p F) ∧ HQ h s F n gl s0 w p ∧ TR h s F n gl s0 w p
theorem MV.fr {h h' : AH} {a b s n : Nat} {gl : Nat → Int} {z : MT} (T : MV h s n gl z) (F : Fr h h' a b) (ht : s + 27 < a ∨ b ≤ s + 21) : MV h' s n gl z := by
  obtain ⟨T1, T2, T3⟩ := T
  refine ⟨fun k hk => ?_, fun q h1 h2 => ?_, ?_⟩
  · rw [F.ai (by omega), F.ai (by omega), F.ai (by omega), F.ai (by omega), F.ai (by omega)]; exact T1 k hk
  · rw [F.ai (by omega)]; exact T2 q h1 h2
  · rw [F.fi (by omega)]; exact T3
theorem MR.fr {h h' : AH} {a b s F n : Nat} {gl s0 : Nat → Int} {w p : Int} (T : MR h s F n gl s0 w p) (Z : Fr h h' a b) (ht : s + 29 < a ∨ b ≤ s + 21) : MR h' s F n gl s0 w p := by
  obtain ⟨T1, T2, T3, T4⟩ := T
  refine ⟨by rw [Z.fi (by omega)]; exact T1, T2.fr Z (by omega), ⟨by rw [Z.fi (by omega)]; exact T3.1, fun u hu => ?_⟩, fun u k hu hk => ?_⟩
  · rw [Z.ai (by omega)]; exact T3.2 u hu
  · rw [Z.ai (by omega)]; exact T4 u k hu hk
theorem TR.rec {h : AH} {s t n : Nat} {gl s0 : Nat → Int} {w p : Int} (V : MV h s n gl (mfr n gl s0 w p t)) (hn : n ≤ 40) (T : ∀ u k : Nat, u < t → k < n → haI h (s + 29) ((u : Int) * 40 + (k : Int)) = (mfr n gl s0 w p u).1 k) : TR (saI h (s + 29) (cpI (haI h (s + 25)) (haI h (s + 29)) 0 ((t : Int) * 40) 40)) s t n gl s0 w p := by
  intro u k hu hk
  rw [haI_saI, if_pos rfl]
  unfold cpI
  by_cases e : u = t
  · subst e
    rw [if_pos (by omega), show (0 : Int) + ((u : Int) * 40 + (k : Int) - (u : Int) * 40) = (k : Int) by omega]
    exact (V.1 k hk).2.1
  · rw [if_neg (by omega)]; exact T u k (by omega) hk
theorem u1_u1 {α : Type} {f : Int → α} {i : Int} {v w : α} : u1 (u1 f i v) i w = u1 f i w := by
  funext j; unfold u1; split <;> rfl
theorem m_mstart {zz : Nat → Nat} {s t0 t1 : Nat} {h : AH} {Q : AH → Prop} {c0 c1 st : Nat → Int} {σ : PT} (S : St h s t0 t1 c0 c1 st) (P : PK h s) (M : MvK h s) (R : PR h s σ) (w : pw (Nc c0) (Nc c1) σ) (h0 : Nc c0 ≤ 40) (h1 : Nc c1 ≤ 40) (q : ∀ h' : AH, Fr h h' (s + 21) (s + 29) → hfI h' (s + 21) 3 = 0 → MV h' s (Nc c0) (glA c1 σ) (mfr (Nc c0) (glA c1 σ) (fun k => (Lc c0 k : Int)) (st 4) (st 5) 0) → HQ h' s 0 (Nc c0) (glA c1 σ) (fun k => (Lc c0 k : Int)) (st 4) (st 5) → Q h') : w_X2_start zz (s + 21) h Q := by
  have S0 := S
  have M0 := M
  have P0 := P
  have lo := S.1.2.2.2.2.2.1
  obtain ⟨⟨a0, a1, a2, a3, a4, a5, a6⟩, ⟨⟨b0, b1, b2, b3, b4, b5⟩, b6, b7, b8⟩, ⟨⟨d0, d1, d2, d3, d4, d5⟩, d6, d7, d8⟩, a9⟩ := S
  obtain ⟨v0, v1, v2, v3, v4, v5, v6, v7, v8, w0, w1, w2, w3, w4, w5, w6, w7, w8, w9⟩ := M
  unfold w_X2_start
  refine ⟨by rw [okP_of v0]; exact ⟨rfl, by omega⟩, ?_⟩
  intro g1 e1
  refine ⟨by rw [e1]; unfold okP; rw [hkd_sfI, v0]; exact ⟨rfl, by show hlo h ≤ _; omega⟩, ?_⟩
  intro g2 e2
  refine ⟨by rw [e2, e1]; unfold okP; rw [hkd_sfI, hkd_sfI, v0]; exact ⟨rfl, by show hlo h ≤ _; omega⟩, ?_⟩
  intro g3 e3
  subst e1; subst e2
  have F3 : Fr h g3 (s + 21) (s + 22) := by rw [e3]; (repeat (first | refine Fr.tsa ?_ (by omega) (by omega) | refine Fr.tsf ?_ (by omega) (by omega))); exact Fr.refl _ _ _
  have f3 : hfI g3 (s + 21) 3 = 0 := by rw [e3]; simp only [hkd_sfI, hkd_sfR, hkd_sfL, hkd_saI, hkd_saR, hkd_saL, hkd_nGb, hlo_sfI, hlo_sfR, hlo_sfL, hlo_saI, hlo_saR, hlo_saL, hlo_nGb, hfR_sfI, hfR_sfL, hfR_saI, hfR_saR, hfR_saL, hfR_nGb, hfI_sfR, hfI_sfL, hfI_saI, hfI_saR, hfI_saL, hfI_nGb, haI_sfI, haI_sfR, haI_sfL, haI_saR, haI_saL, haI_nGb, haR_sfI, haR_sfR, haR_saI, haR_nGb, haL_sfI, haL_saI, hfL_sfI, hfL_saI, hfI_sfI, hfR_sfR, hfL_sfL, haI_saI, haR_saR, haL_saL, Nat.add_left_cancel_iff, Nat.reduceEqDiff, Nat.add_eq_left, Nat.left_eq_add, if_true, if_false, Nat.reduceAdd, true_and, and_true, Nat.one_ne_zero, Nat.succ_ne_self]
  have f4 : hfI g3 (s + 21) 4 = 0 := by rw [e3]; simp only [hkd_sfI, hkd_sfR, hkd_sfL, hkd_saI, hkd_saR, hkd_saL, hkd_nGb, hlo_sfI, hlo_sfR, hlo_sfL, hlo_saI, hlo_saR, hlo_saL, hlo_nGb, hfR_sfI, hfR_sfL, hfR_saI, hfR_saR, hfR_saL, hfR_nGb, hfI_sfR, hfI_sfL, hfI_saI, hfI_saR, hfI_saL, hfI_nGb, haI_sfI, haI_sfR, haI_sfL, haI_saR, haI_saL, haI_nGb, haR_sfI, haR_sfR, haR_saI, haR_nGb, haL_sfI, haL_saI, hfL_sfI, hfL_saI, hfI_sfI, hfR_sfR, hfL_sfL, haI_saI, haR_saR, haL_saL, Nat.add_left_cancel_iff, Nat.reduceEqDiff, Nat.add_eq_left, Nat.left_eq_add, if_true, if_false, Nat.reduceAdd, true_and, and_true, Nat.one_ne_zero, Nat.succ_ne_self]
  have f12 : hfI g3 (s + 21) 12 = 0 := by rw [e3]; simp only [hkd_sfI, hkd_sfR, hkd_sfL, hkd_saI, hkd_saR, hkd_saL, hkd_nGb, hlo_sfI, hlo_sfR, hlo_sfL, hlo_saI, hlo_saR, hlo_saL, hlo_nGb, hfR_sfI, hfR_sfL, hfR_saI, hfR_saR, hfR_saL, hfR_nGb, hfI_sfR, hfI_sfL, hfI_saI, hfI_saR, hfI_saL, hfI_nGb, haI_sfI, haI_sfR, haI_sfL, haI_saR, haI_saL, haI_nGb, haR_sfI, haR_sfR, haR_saI, haR_nGb, haL_sfI, haL_saI, hfL_sfI, hfL_saI, hfI_sfI, hfR_sfR, hfL_sfL, haI_saI, haR_saR, haL_saL, Nat.add_left_cancel_iff, Nat.reduceEqDiff, Nat.add_eq_left, Nat.left_eq_add, if_true, if_false, Nat.reduceAdd, true_and, and_true, Nat.one_ne_zero, Nat.succ_ne_self]
  clear e3
  have M3 := M0.fr F3
  have l3 := F3.lo
  obtain ⟨v0, v1, v2, v3, v4, v5, v6, v7, v8, w0, w1, w2, w3, w4, w5, w6, w7, w8, w9⟩ := M3
  refine ⟨by rw [okA_of v0], s + 27, w7, m_fill v6 (by omega) (by omega) ?_⟩
  refine ⟨by rw [okA_of (show hkd (saI _ _ _) (s + 21) = _ from v0)], s + 23, w1, m_fill v2 (by show hlo g3 ≤ _; omega) (by omega) ?_⟩
  refine ⟨by rw [okA_of (show hkd (saI (saI _ _ _) _ _) (s + 21) = _ from v0)], s + 26, w6, m_fill v5 (by show hlo g3 ≤ _; omega) (by omega) ?_⟩
  refine ⟨by rw [okA_of (show hkd (saI (saI (saI _ _ _) _ _) _ _) (s + 21) = _ from v0)], s + 24, w2, m_fill v3 (by show hlo g3 ≤ _; omega) (by omega) ?_⟩
  refine ⟨by rw [okA_of (show hkd (saI (saI (saI (saI _ _ _) _ _) _ _) _ _) (s + 21) = _ from v0)], s + 28, w8, m_fill v7 (by show hlo g3 ≤ _; omega) (by omega) ?_⟩
  generalize hG : saI (saI (saI (saI (saI g3 (s + 27) _) (s + 23) _) (s + 26) _) (s + 24) _) (s + 28) _ = G
  have FG : Fr h G (s + 21) (s + 29) := by
    rw [← hG]
    refine (F3.wide (a' := s + 21) (b' := s + 29) (by omega) (by omega)).trans ?_
    (repeat (first | refine Fr.tsa ?_ (by omega) (by omega) | refine Fr.tsf ?_ (by omega) (by omega))); exact Fr.refl _ _ _
  have z23 : ∀ k : Nat, k < 40 → haI G (s + 23) k = 0 := fun k hk => by rw [← hG]; simp only [hkd_sfI, hkd_sfR, hkd_sfL, hkd_saI, hkd_saR, hkd_saL, hkd_nGb, hlo_sfI, hlo_sfR, hlo_sfL, hlo_saI, hlo_saR, hlo_saL, hlo_nGb, hfR_sfI, hfR_sfL, hfR_saI, hfR_saR, hfR_saL, hfR_nGb, hfI_sfR, hfI_sfL, hfI_saI, hfI_saR, hfI_saL, hfI_nGb, haI_sfI, haI_sfR, haI_sfL, haI_saR, haI_saL, haI_nGb, haR_sfI, haR_sfR, haR_saI, haR_nGb, haL_sfI, haL_saI, hfL_sfI, hfL_saI, hfI_sfI, hfR_sfR, hfL_sfL, haI_saI, haR_saR, haL_saL, Nat.add_left_cancel_iff, Nat.reduceEqDiff, Nat.add_eq_left, Nat.left_eq_add, if_true, if_false, Nat.reduceAdd, true_and, and_true, Nat.one_ne_zero, Nat.succ_ne_self, flA]; rw [if_pos (by omega)]
  have z24 : ∀ k : Nat, k < 40 → haI G (s + 24) k = 0 := fun k hk => by rw [← hG]; simp only [hkd_sfI, hkd_sfR, hkd_sfL, hkd_saI, hkd_saR, hkd_saL, hkd_nGb, hlo_sfI, hlo_sfR, hlo_sfL, hlo_saI, hlo_saR, hlo_saL, hlo_nGb, hfR_sfI, hfR_sfL, hfR_saI, hfR_saR, hfR_saL, hfR_nGb, hfI_sfR, hfI_sfL, hfI_saI, hfI_saR, hfI_saL, hfI_nGb, haI_sfI, haI_sfR, haI_sfL, haI_saR, haI_saL, haI_nGb, haR_sfI, haR_sfR, haR_saI, haR_nGb, haL_sfI, haL_saI, hfL_sfI, hfL_saI, hfI_sfI, hfR_sfR, hfL_sfL, haI_saI, haR_saR, haL_saL, Nat.add_left_cancel_iff, Nat.reduceEqDiff, Nat.add_eq_left, Nat.left_eq_add, if_true, if_false, Nat.reduceAdd, true_and, and_true, Nat.one_ne_zero, Nat.succ_ne_self, flA]; rw [if_pos (by omega)]
  have z26 : ∀ k : Nat, k < 40 → haI G (s + 26) k = 0 := fun k hk => by rw [← hG]; simp only [hkd_sfI, hkd_sfR, hkd_sfL, hkd_saI, hkd_saR, hkd_saL, hkd_nGb, hlo_sfI, hlo_sfR, hlo_sfL, hlo_saI, hlo_saR, hlo_saL, hlo_nGb, hfR_sfI, hfR_sfL, hfR_saI, hfR_saR, hfR_saL, hfR_nGb, hfI_sfR, hfI_sfL, hfI_saI, hfI_saR, hfI_saL, hfI_nGb, haI_sfI, haI_sfR, haI_sfL, haI_saR, haI_saL, haI_nGb, haR_sfI, haR_sfR, haR_saI, haR_nGb, haL_sfI, haL_saI, hfL_sfI, hfL_saI, hfI_sfI, hfR_sfR, hfL_sfL, haI_saI, haR_saR, haL_saL, Nat.add_left_cancel_iff, Nat.reduceEqDiff, Nat.add_eq_left, Nat.left_eq_add, if_true, if_false, Nat.reduceAdd, true_and, and_true, Nat.one_ne_zero, Nat.succ_ne_self, flA]; rw [if_pos (by omega)]
  have z27 : ∀ k : Int, 0 ≤ k → k < 80 → haI G (s + 27) k = 0 := fun k h1 h2 => by rw [← hG]; simp only [hkd_sfI, hkd_sfR, hkd_sfL, hkd_saI, hkd_saR, hkd_saL, hkd_nGb, hlo_sfI, hlo_sfR, hlo_sfL, hlo_saI, hlo_saR, hlo_saL, hlo_nGb, hfR_sfI, hfR_sfL, hfR_saI, hfR_saR, hfR_saL, hfR_nGb, hfI_sfR, hfI_sfL, hfI_saI, hfI_saR, hfI_saL, hfI_nGb, haI_sfI, haI_sfR, haI_sfL, haI_saR, haI_saL, haI_nGb, haR_sfI, haR_sfR, haR_saI, haR_nGb, haL_sfI, haL_saI, hfL_sfI, hfL_saI, hfI_sfI, hfR_sfR, hfL_sfL, haI_saI, haR_saR, haL_saL, Nat.add_left_cancel_iff, Nat.reduceEqDiff, Nat.add_eq_left, Nat.left_eq_add, if_true, if_false, Nat.reduceAdd, true_and, and_true, Nat.one_ne_zero, Nat.succ_ne_self, flA]; rw [if_pos (by omega)]
  have z28 : ∀ k : Nat, k ≤ 190 → haI G (s + 28) k = 0 := fun k hk => by rw [← hG]; simp only [hkd_sfI, hkd_sfR, hkd_sfL, hkd_saI, hkd_saR, hkd_saL, hkd_nGb, hlo_sfI, hlo_sfR, hlo_sfL, hlo_saI, hlo_saR, hlo_saL, hlo_nGb, hfR_sfI, hfR_sfL, hfR_saI, hfR_saR, hfR_saL, hfR_nGb, hfI_sfR, hfI_sfL, hfI_saI, hfI_saR, hfI_saL, hfI_nGb, haI_sfI, haI_sfR, haI_sfL, haI_saR, haI_saL, haI_nGb, haR_sfI, haR_sfR, haR_saI, haR_nGb, haL_sfI, haL_saI, hfL_sfI, hfL_saI, hfI_sfI, hfR_sfR, hfL_sfL, haI_saI, haR_saR, haL_saL, Nat.add_left_cancel_iff, Nat.reduceEqDiff, Nat.add_eq_left, Nat.left_eq_add, if_true, if_false, Nat.reduceAdd, true_and, and_true, Nat.one_ne_zero, Nat.succ_ne_self, flA]; rw [if_pos (by omega)]
  have y3 : hfI G (s + 21) 3 = 0 := by rw [← hG]; exact f3
  have y4 : hfI G (s + 21) 4 = 0 := by rw [← hG]; exact f4
  have y12 : hfI G (s + 21) 12 = 0 := by rw [← hG]; exact f12
  clear hG
  obtain ⟨I, hI⟩ : ∃ I : Nat → Int → AH → Prop, ∀ m x h', I m x h' ↔ ∃ k : Nat, k ≤ Nc c0 ∧ m = Nc c0 - k ∧ x = (k : Int) ∧ Fr h h' (s + 21) (s + 29) ∧ (∀ j : Nat, j < k → haI h' (s + 22) j = glA c1 σ j ∧ haI h' (s + 25) j = (Lc c0 j : Int)) ∧ (∀ r : Int, 0 ≤ r → r < 80 → haI h' (s + 27) r = (cT (glA c1 σ) (fun k => (Lc c0 k : Int)) k r : Int)) ∧ hfI h' (s + 21) 12 = (cG (glA c1 σ) (fun k => (Lc c0 k : Int)) k : Int) ∧ (∀ j : Nat, j < 40 → haI h' (s + 23) j = 0 ∧ haI h' (s + 24) j = 0 ∧ haI h' (s + 26) j = 0) ∧ (∀ j : Nat, j ≤ 190 → haI h' (s + 28) j = 0) ∧ hfI h' (s + 21) 3 = 0 ∧ hfI h' (s + 21) 4 = 0 := ⟨_, fun _ _ _ => Iff.rfl⟩
  refine ⟨I, ⟨_, (hI _ _ _).mpr ⟨0, by omega, rfl, rfl, FG, fun j hj => by omega, fun r h1 h2 => z27 r h1 h2, y12, fun j hj => ⟨z23 j hj, z24 j hj, z26 j hj⟩, z28, y3, y4⟩⟩, ?_⟩
  clear z23 z24 z26 z27 z28 y3 y4 y12 FG f3 f4 f12 F3 l3
  intro m x h' hi9
  obtain ⟨k, hk, rfl, rfl, F, A1, A2, A3, A4, A5, A6, A7⟩ := (hI _ _ _).mp hi9
  have S1 := S0.fr F (by omega)
  have M1 := M0.fr F
  have P1 := P0.fr F
  have R1 := R.fr F (by omega)
  have lo' : hlo h' ≤ s := S1.1.2.2.2.2.2.1
  obtain ⟨⟨a0, a1, a2, a3, a4, a5, a6⟩, ⟨⟨b0, b1, b2, b3, b4, b5⟩, b6, b7, b8⟩, ⟨⟨d0, d1, d2, d3, d4, d5⟩, d6, d7, d8⟩, a9⟩ := S1
  obtain ⟨v0, v1, v2, v3, v4, v5, v6, v7, v8, w0, w1, w2, w3, w4, w5, w6, w7, w8, w9⟩ := M1
  obtain ⟨p0, p1, p2, p3, p4, p5, p6, q0, q1, q2, q3, q4, q5, q6⟩ := P1
  simp only [txt0, okA, okI, jn_def, pair_ex, some_ex, forall_eq, a0, a1, a2, a3, a4, b0, b1, b2, b3, b4, b7, d0, d1, d2, d3, d4, d7, v0, v1, v2, v3, v4, v5, v6, v7, v8, w0, w1, w2, w3, w4, w5, w6, w7, w8, w9, Nat.add_left_cancel_iff, Nat.reduceEqDiff, Nat.add_eq_left, Nat.left_eq_add, if_true, if_false, Nat.reduceAdd, true_and, and_true, Nat.one_ne_zero, Nat.succ_ne_self]
  refine ⟨fun hc => ?_, fun hc => ?_⟩
  · obtain rfl : k = Nc c0 := by omega
    refine q h' F A6 ⟨fun j hj => ⟨(A1 j hj).1, (A1 j hj).2, (A4 j (by omega)).2.2, (A4 j (by omega)).1, (A4 j (by omega)).2.1⟩, A2, A3⟩ ⟨A7, fun u hu => ?_⟩
    rw [A5 u hu, if_neg (by omega)]
  · have hk9 : k < Nc c0 := by omega
    have e0 := b8 k hk9
    have l0 := Lc_lt hk9
    have r1 := (R1 k (by omega)).1
    have k1 : (0 : Int) ≤ (k : Int) := by omega
    have k2 : (k : Int) < ((40 : Nat) : Int) := by omega
    have h21 : ∀ d, hlo h' ≤ s + d := fun d => by omega
    have L1 : (0 : Int) ≤ (Lc c0 k : Int) := by omega
    have L2 : (Lc c0 k : Int) < ((80 : Nat) : Int) := by omega
    have T1 := A2 (Lc c0 k : Int) L1 (by omega)
    have T2 := cT_le (gl := glA c1 σ) (c := fun k => (Lc c0 k : Int)) (n := k) (q := (Lc c0 k : Int))
    have T3 := cG_le (gl := glA c1 σ) (c := fun k => (Lc c0 k : Int)) (n := k)
    have i1 : inR ((cT (glA c1 σ) (fun k => (Lc c0 k : Int)) k (Lc c0 k : Int) : Int) + 1) := by unfold inR; omega
    have fin : ∀ g : AH, Fr h g (s + 21) (s + 29) → haI g (s + 22) = u1 (haI h' (s + 22)) k (glA c1 σ k) → haI g (s + 25) = u1 (haI h' (s + 25)) k (Lc c0 k : Int) → (haI g (s + 27) = if glA c1 σ k = -1 then haI h' (s + 27) else u1 (haI h' (s + 27)) (Lc c0 k : Int) ((cT (glA c1 σ) (fun k => (Lc c0 k : Int)) k (Lc c0 k : Int) : Int) + 1)) → (hfI g (s + 21) 12 = if glA c1 σ k ≠ -1 ∧ (Lc c0 k : Int) ≠ glA c1 σ k then (cG (glA c1 σ) (fun k => (Lc c0 k : Int)) k : Int) + 1 else (cG (glA c1 σ) (fun k => (Lc c0 k : Int)) k : Int)) → haI g (s + 23) = haI h' (s + 23) → haI g (s + 24) = haI h' (s + 24) → haI g (s + 26) = haI h' (s + 26) → haI g (s + 28) = haI h' (s + 28) → hfI g (s + 21) 3 = hfI h' (s + 21) 3 → hfI g (s + 21) 4 = hfI h' (s + 21) 4 → inR ((k : Int) + 1) ∧ ∃ m, m < Nc c0 - k ∧ I m ((k : Int) + 1) g := by
      intro g Fg g22 g25 g27 g12 g23 g24 g26 g28 q3 q4
      refine ⟨by unfold inR; omega, Nc c0 - (k + 1), by omega, (hI _ _ _).mpr ⟨k + 1, by omega, rfl, by omega, Fg, fun j hj => ?_, fun r hr1 hr2 => ?_, ?_, fun j hj => by rw [g23, g24, g26]; exact A4 j hj, fun j hj => by rw [g28]; exact A5 j hj, by rw [q3]; exact A6, by rw [q4]; exact A7⟩⟩
      · rw [g22, g25, u1_apply, u1_apply]
        by_cases e : j = k
        · subst e; rw [if_pos rfl, if_pos rfl]; exact ⟨rfl, rfl⟩
        · rw [if_neg (by omega), if_neg (by omega)]; exact A1 j (by omega)
      · rw [g27, cT_s]
        by_cases e : glA c1 σ k = -1
        · rw [if_pos e, if_neg (fun h => h.1 e)]; exact A2 r hr1 hr2
        · rw [if_neg e, u1_apply]
          by_cases e2 : r = (Lc c0 k : Int)
          · rw [if_pos e2, if_pos ⟨e, e2.symm⟩, e2]; omega
          · rw [if_neg e2, if_neg (fun h => e2 h.2.symm)]; exact A2 r hr1 hr2
      · rw [g12, cG_s]
        split <;> omega
    simp only [txt1, hkd_sfI, hkd_sfR, hkd_sfL, hkd_saI, hkd_saR, hkd_saL, hkd_nGb, hlo_sfI, hlo_sfR, hlo_sfL, hlo_saI, hlo_saR, hlo_saL, hlo_nGb, hfR_sfI, hfR_sfL, hfR_saI, hfR_saR, hfR_saL, hfR_nGb, hfI_sfR, hfI_sfL, hfI_saI, hfI_saR, hfI_saL, hfI_nGb, haI_sfI, haI_sfR, haI_sfL, haI_saR, haI_saL, haI_nGb, haR_sfI, haR_sfR, haR_saI, haR_nGb, haL_sfI, haL_saI, hfL_sfI, hfL_saI, hfI_sfI, hfR_sfR, hfL_sfL, haI_saI, haR_saR, haL_saL, okA, okP, okI, okW, okJ, okV, okQ, okU, okC, jn_def, pair_ex, some_ex, forall_eq, a0, a1, a2, a3, a4, b0, b1, b2, b3, b4, b7, d0, d1, d2, d3, d4, d7, v0, v1, v2, v3, v4, v5, v6, v7, v8, w0, w1, w2, w3, w4, w5, w6, w7, w8, w9, p0, p1, p2, p3, p4, p5, p6, q0, q1, q2, q3, q4, q5, q6, Nat.add_left_cancel_iff, Nat.reduceEqDiff, Nat.add_eq_left, Nat.left_eq_add, if_true, if_false, Nat.reduceAdd, true_and, and_true, Nat.one_ne_zero, Nat.succ_ne_self, u1_apply, e0, r1, k1, k2, h21]
    refine ⟨fun hn => ?_, fun hn => ?_⟩
    · have eg : glA c1 σ k = -1 := if_pos hn
      refine fin _ ?_ ?_ ?_ ?_ ?_ ?_ ?_ ?_ ?_ ?_ ?_
      · refine F.trans ?_
        (repeat (first | refine Fr.tsa ?_ (by omega) (by omega) | refine Fr.tsf ?_ (by omega) (by omega))); exact Fr.refl _ _ _
      all_goals simp only [hkd_sfI, hkd_sfR, hkd_sfL, hkd_saI, hkd_saR, hkd_saL, hkd_nGb, hlo_sfI, hlo_sfR, hlo_sfL, hlo_saI, hlo_saR, hlo_saL, hlo_nGb, hfR_sfI, hfR_sfL, hfR_saI, hfR_saR, hfR_saL, hfR_nGb, hfI_sfR, hfI_sfL, hfI_saI, hfI_saR, hfI_saL, hfI_nGb, haI_sfI, haI_sfR, haI_sfL, haI_saR, haI_saL, haI_nGb, haR_sfI, haR_sfR, haR_saI, haR_nGb, haL_sfI, haL_saI, hfL_sfI, hfL_saI, hfI_sfI, hfR_sfR, hfL_sfL, haI_saI, haR_saR, haL_saL, Nat.add_left_cancel_iff, Nat.reduceEqDiff, Nat.add_eq_left, Nat.left_eq_add, if_true, if_false, Nat.reduceAdd, true_and, and_true, Nat.one_ne_zero, Nat.succ_ne_self, eg, ne_eq, not_true_eq_false, false_and, saI_saI, A3]
    · obtain ⟨j, hj, ej, -⟩ : ∃ j, j < Nc c1 ∧ σ.1 k = (j : Int) ∧ True := by
        rcases w.1 k hk9 with h | ⟨j, h1, h2, -⟩
        · exact absurd h.1 hn
        · exact ⟨j, h1, h2, trivial⟩
      have eg : glA c1 σ k = (Lc c1 j : Int) := by
        unfold glA; rw [if_neg hn, ej]; rfl
      have d8' := d8 j hj
      have lj := Lc_lt hj
      have j1 : (0 : Int) ≤ (j : Int) := by omega
      have j2 : (j : Int) < ((40 : Nat) : Int) := by omega
      have ne1 : ¬ ((Lc c1 j : Int) = -1) := by omega
      have n20 : ¬ (t1 = s + 20) := by omega
      have n23 : ¬ (t1 = s + 23) := by omega
      have n25 : ¬ (t1 = s + 25) := by omega
      have i2 : inR ((cG (glA c1 σ) (fun k => (Lc c0 k : Int)) k : Int) + 1) := by unfold inR; omega
      have i3 : inR ((cG (glA c1 σ) (fun k => (Lc c0 k : Int)) k : Int) + 0) := by unfold inR; omega
      simp only [w_X2_isAway, hkd_sfI, hkd_sfR, hkd_sfL, hkd_saI, hkd_saR, hkd_saL, hkd_nGb, hlo_sfI, hlo_sfR, hlo_sfL, hlo_saI, hlo_saR, hlo_saL, hlo_nGb, hfR_sfI, hfR_sfL, hfR_saI, hfR_saR, hfR_saL, hfR_nGb, hfI_sfR, hfI_sfL, hfI_saI, hfI_saR, hfI_saL, hfI_nGb, haI_sfI, haI_sfR, haI_sfL, haI_saR, haI_saL, haI_nGb, haR_sfI, haR_sfR, haR_saI, haR_nGb, haL_sfI, haL_saI, hfL_sfI, hfL_saI, hfI_sfI, hfR_sfR, hfL_sfL, haI_saI, haR_saR, haL_saL, okA, okP, okI, okW, okJ, okV, okQ, okU, okC, jn_def, pair_ex, some_ex, forall_eq, a0, a1, a2, a3, a4, b0, b1, b2, b3, b4, b7, d0, d1, d2, d3, d4, d7, v0, v1, v2, v3, v4, v5, v6, v7, v8, w0, w1, w2, w3, w4, w5, w6, w7, w8, w9, p0, p1, p2, p3, p4, p5, p6, q0, q1, q2, q3, q4, q5, q6, Nat.add_left_cancel_iff, Nat.reduceEqDiff, Nat.add_eq_left, Nat.left_eq_add, if_true, if_false, Nat.reduceAdd, true_and, and_true, Nat.one_ne_zero, Nat.succ_ne_self, u1_apply, n20, n23, n25, ej, d8', j1, j2, k1, k2, h21, L1, L2, T1, i1, i2, i3, A3]
      refine ⟨fun h => absurd h ne1, fun _ => ⟨fun heq => ⟨by simp, fun _ => ?_, fun h => absurd trivial h⟩, fun hne => ⟨by simp, fun h => absurd h (by omega), fun _ => ?_⟩⟩⟩
      · refine fin _ ?_ ?_ ?_ ?_ ?_ ?_ ?_ ?_ ?_ ?_ ?_
        · refine F.trans ?_
          (repeat (first | refine Fr.tsa ?_ (by omega) (by omega) | refine Fr.tsf ?_ (by omega) (by omega))); exact Fr.refl _ _ _
        all_goals simp only [hkd_sfI, hkd_sfR, hkd_sfL, hkd_saI, hkd_saR, hkd_saL, hkd_nGb, hlo_sfI, hlo_sfR, hlo_sfL, hlo_saI, hlo_saR, hlo_saL, hlo_nGb, hfR_sfI, hfR_sfL, hfR_saI, hfR_saR, hfR_saL, hfR_nGb, hfI_sfR, hfI_sfL, hfI_saI, hfI_saR, hfI_saL, hfI_nGb, haI_sfI, haI_sfR, haI_sfL, haI_saR, haI_saL, haI_nGb, haR_sfI, haR_sfR, haR_saI, haR_nGb, haL_sfI, haL_saI, hfL_sfI, hfL_saI, hfI_sfI, hfR_sfR, hfL_sfL, haI_saI, haR_saR, haL_saL, Nat.add_left_cancel_iff, Nat.reduceEqDiff, Nat.add_eq_left, Nat.left_eq_add, if_true, if_false, Nat.reduceAdd, true_and, and_true, Nat.one_ne_zero, Nat.succ_ne_self, eg, ne_eq, saI_saI, u1_u1, ne1, heq, not_true_eq_false, and_false, Int.add_zero]
      · refine fin _ ?_ ?_ ?_ ?_ ?_ ?_ ?_ ?_ ?_ ?_ ?_
        · refine F.trans ?_
          (repeat (first | refine Fr.tsa ?_ (by omega) (by omega) | refine Fr.tsf ?_ (by omega) (by omega))); exact Fr.refl _ _ _
        all_goals simp only [hkd_sfI, hkd_sfR, hkd_sfL, hkd_saI, hkd_saR, hkd_saL, hkd_nGb, hlo_sfI, hlo_sfR, hlo_sfL, hlo_saI, hlo_saR, hlo_saL, hlo_nGb, hfR_sfI, hfR_sfL, hfR_saI, hfR_saR, hfR_saL, hfR_nGb, hfI_sfR, hfI_sfL, hfI_saI, hfI_saR, hfI_saL, hfI_nGb, haI_sfI, haI_sfR, haI_sfL, haI_saR, haI_saL, haI_nGb, haR_sfI, haR_sfR, haR_saI, haR_nGb, haL_sfI, haL_saI, hfL_sfI, hfL_saI, hfI_sfI, hfR_sfR, hfL_sfL, haI_saI, haR_saR, haL_saL, Nat.add_left_cancel_iff, Nat.reduceEqDiff, Nat.add_eq_left, Nat.left_eq_add, if_true, if_false, Nat.reduceAdd, true_and, and_true, Nat.one_ne_zero, Nat.succ_ne_self, eg, ne_eq, saI_saI, u1_u1, ne1, hne, not_false_eq_true]
