/-! THE PURE LAYER, 31: the model's moving, all frames -/
def ar (s a : Int) : Int := if a = 0 then 0 else s + a
def MW1 (h : AH) (y n : Nat) (gl : Nat → Int) (s : Int) (z : MT) : Prop := ∀ j : Nat, j < n → haI h (y + 14) j = z.1 j ∧ haI h (y + 13) j = z.2.1 j ∧ haI h (y + 12) j = z.2.2.1 j ∧ (¬ (gl j ≠ -1 ∧ z.1 j ≠ gl j) → haI h (y + 15) j = ar s (z.2.2.2.1 j))
def MS (h : AH) (y n : Nat) (gl s0 : Nat → Int) (w p : Int) (t : Nat) : Prop := ∀ u : Nat, u < t → haI h (y + 11) u = ((mfr n gl s0 w p (u + 1)).2.2.2.2 : Int) ∧ ∀ k : Nat, k < n → haI h (y + 10) ((40 : Int) * (u : Int) + (k : Int)) = (mfr n gl s0 w p (u + 1)).1 k
def MFr (h : AH) (y n : Nat) (gl s0 : Nat → Int) (w p s : Int) (t : Nat) : Prop := hfI h y 12 = (t : Int) ∧ MW1 h y n gl s (mfr n gl s0 w p t) ∧ MS h y n gl s0 w p t
theorem MS.ai {h h' : AH} {y n t : Nat} {gl s0 : Nat → Int} {w p : Int} (S : MS h y n gl s0 w p t) (e10 : haI h' (y + 10) = haI h (y + 10)) (e11 : haI h' (y + 11) = haI h (y + 11)) : MS h' y n gl s0 w p t := by
  unfold MS at *; rw [e10, e11]; exact S
set_option maxHeartbeats 4000000 in
theorem d_layFrame {zz : Nat → Nat} {y t : Nat} {h : AH} {Q : AH → Prop} {c0 c1 st s2 : Nat → Int} (V : MV0 h y c0 c1 s2) (P : MP h y c0 c1 (prA c0 c1 st)) (e6 : s2 6 = st 6) (ht : t < 200) (M : MFr h y (Nc c0) (glM c0 c1 st) (s0M c0) (s2 4) (s2 5) (sti c0 c1 st) t) (q : ∀ h' : AH, Lf h h' y (y + 10) → MFr h' y (Nc c0) (glM c0 c1 st) (s0M c0) (s2 4) (s2 5) (sti c0 c1 st) (t + 1) → Q h') : w_X7_layFrame zz y h Q := by
  have h0 := V.2.2.2.1.n
  have gs := V.2.2.2.2.2
  have hp : 0 ≤ s2 5 ∧ s2 5 ≤ 9 := gs.2.2.2.2.2.1
  have sb : 0 ≤ sti c0 c1 st ∧ sti c0 c1 st ≤ 60 := by
    have := gs.2.2.2.2.2.2.1
    rw [e6] at this
    have cl := cK_le (f := kfA c0 c1 st) (n := Nc c0) (v := 4)
    unfold sti; omega
  obtain ⟨n, hn⟩ : ∃ n, n = Nc c0 := ⟨_, rfl⟩
  have glb : ∀ k, k < n → glM c0 c1 st k = -1 ∨ 0 ≤ glM c0 c1 st k ∧ glM c0 c1 st k < 80 := by
    intro k hk
    rw [hn] at hk
    rcases glA_ok (c1 := c1) (pw_A (c0 := c0) (c1 := c1) (st := st)) k hk with h | h
    · exact .inl h.1
    · exact .inr h.1
  have mk0 := (mfr_k (w := s2 4) hp glb (s0 := s0M c0) (fun k hk => by
    rw [hn] at hk
    have := Lc_lt hk
    show 0 ≤ (Lc c0 k : Int) ∧ (Lc c0 k : Int) < 80
    omega) t).1
  rw [← hn] at h0 M q
  obtain ⟨M1, M2, M3⟩ := M
  obtain ⟨w, hw⟩ : ∃ w, w = s2 4 := ⟨_, rfl⟩
  obtain ⟨p, hpe⟩ : ∃ p, p = s2 5 := ⟨_, rfl⟩
  rw [← hw, ← hpe] at M2 M3 q mk0
  rw [← hpe] at hp
  obtain ⟨z0, hz0⟩ : ∃ z0, z0 = mrs (mfr n (glM c0 c1 st) (s0M c0) w p t) := ⟨_, rfl⟩
  have msk := fun k hk => msw_k (w := w) hp glb (z := z0) (t := t) (fun k hk => by rw [hz0]; exact MK_cong (z := mfr n (glM c0 c1 st) (s0M c0) w p t) ⟨rfl, rfl, rfl, rfl⟩ (mk0 k hk)) k hk
  have z0c : z0.2.2.2.2 = 0 := by rw [hz0]; rfl
  have MW0 : MW1 h y n (glM c0 c1 st) (sti c0 c1 st) z0 := by rw [hz0]; exact M2
  have K0 := V.1
  unfold w_X7_layFrame
  refine ⟨by rw [okA_of K0.1], y + 11, K0.2.2.2.2.2.2.2.2.2.2.2.2.2.1, by rw [okA_of K0.1], ?_⟩
  rw [M1]
  refine ⟨by rw [okW_of K0.2.2.1.2.2.2.2.2.2.2.2.2.2.1]; have := K0.2.1; omega, ?_⟩
  intro g0 eg0
  have Fg0 : Fr h g0 (y + 10) (y + 16) := by rw [eg0]; exact Fr.sa (by omega) (by omega)
  obtain ⟨I, hI⟩ : ∃ I : Nat → Int → AH → Prop, ∀ m x h', I m x h' ↔ ∃ k : Nat, k ≤ n ∧ m = n - k ∧ x = (k : Int) ∧ Fr h h' (y + 10) (y + 16) ∧ MW1 h' y n (glM c0 c1 st) (sti c0 c1 st) (msw n (glM c0 c1 st) w p (t + 1) z0 k) ∧ haI h' (y + 11) t = ((msw n (glM c0 c1 st) w p (t + 1) z0 k).2.2.2.2 : Int) ∧ MS h' y n (glM c0 c1 st) (s0M c0) w p t := ⟨_, fun _ _ _ => Iff.rfl⟩
  refine ⟨I, ⟨_, (hI _ _ _).mpr ⟨0, by omega, rfl, rfl, Fg0, fun j hj => ?_, ?_, fun u hu => ?_⟩⟩, ?_⟩
  · have := MW0 j hj
    rw [eg0, haI_saI, if_neg (by omega), haI_saI, if_neg (by omega), haI_saI, if_neg (by omega), haI_saI, if_neg (by omega)]
    exact this
  · rw [eg0, haI_saI, if_pos rfl, u1_apply, if_pos rfl]
    show (0 : Int) = (z0.2.2.2.2 : Int)
    rw [z0c]; rfl
  · have := M3 u hu
    rw [eg0, haI_saI, if_pos rfl, u1_apply, if_neg (by omega), haI_saI, if_neg (by omega)]
    exact this
  clear eg0 Fg0 M2 M3 MW0 mk0
  intro m x g hi9
  obtain ⟨k, hk, rfl, rfl, F, MW, Hc, Sp⟩ := (hI _ _ _).mp hi9
  have Vg := V.fr F (by omega)
  have Pg := P.fr F (by omega)
  have K := Vg.1
  have n0 : haI g (y + 4) 0 = (n : Int) := by rw [hn]; exact Vg.2.2.1.1
  have mv : hfI g y 12 = (t : Int) := by rw [F.fi (by omega)]; exact M1
  obtain ⟨kt, kl, ⟨ka1, ka2, ka3, ka4, ka5, ka6, ka7, ka8, ka9, ka10, ka11, ka12, ka13, ka14, ka15, ka16⟩, ⟨kr1, kr2, kr3, kr4, kr5, kr6, kr7, kr8, kr9, kr10, kr11, kr12, kr13, kr14, kr15, kr16⟩⟩ := K
  have K := Vg.1
  refine ⟨by rw [okA_of kt], y + 4, kr4, by rw [okI_of ka4]; omega, ?_⟩
  rw [n0]
  refine ⟨fun hc => ?_, fun hc => ?_⟩
  · obtain rfl : k = n := by omega
    have ez : msw k (glM c0 c1 st) w p (t + 1) z0 k = mfr k (glM c0 c1 st) (s0M c0) w p (t + 1) := by rw [hz0]; rfl
    rw [ez] at MW Hc
    obtain ⟨J, hJ⟩ : ∃ J : Nat → Int → AH → Prop, ∀ m x h', J m x h' ↔ ∃ j : Nat, j ≤ k ∧ m = k - j ∧ x = (j : Int) ∧ Fr g h' (y + 10) (y + 11) ∧ (∀ i : Nat, i < j → haI h' (y + 10) ((40 : Int) * (t : Int) + (i : Int)) = (mfr k (glM c0 c1 st) (s0M c0) w p (t + 1)).1 i) ∧ MS h' y k (glM c0 c1 st) (s0M c0) w p t := ⟨_, fun _ _ _ => Iff.rfl⟩
    refine ⟨J, ⟨_, (hJ _ _ _).mpr ⟨0, by omega, rfl, rfl, Fr.refl _ _ _, fun i hi => by omega, Sp⟩⟩, ?_⟩
    intro m x g2 hj9
    obtain ⟨j, hj, rfl, rfl, F2, Sj, Sp2⟩ := (hJ _ _ _).mp hj9
    have K2 := K.fr F2
    have mv2 : hfI g2 y 12 = (t : Int) := by rw [F2.fi (by omega)]; exact mv
    have n02 : haI g2 (y + 4) 0 = (k : Int) := by rw [F2.ai (by omega)]; exact n0
    refine ⟨by rw [okA_of K2.1], y + 4, K2.2.2.2.2.2.2.1, by rw [okI_of K2.2.2.1.2.2.2.1]; omega, ?_⟩
    rw [n02, mv2]
    refine ⟨fun hc2 => ⟨by rw [okA_of K2.1], by unfold inR; omega, by rw [okP_of K2.1]; exact ⟨rfl, K2.2.1⟩, ?_⟩, fun hc2 => ⟨by rw [okA_of K2.1], y + 10, K2.2.2.2.2.2.2.2.2.2.2.2.2.1, by rw [okA_of K2.1], by unfold inR; omega, by unfold inR; omega, by rw [okA_of K2.1], y + 14, K2.2.2.2.2.2.2.2.2.2.2.2.2.2.2.2.2.1, by rw [okI_of K2.2.2.1.2.2.2.2.2.2.2.2.2.2.2.2.2.1]; omega, by rw [okW_of K2.2.2.1.2.2.2.2.2.2.2.2.2.1]; have := K2.2.1; omega, ?_⟩⟩
    · obtain rfl : j = k := by omega
      intro g3 e3
      have F02 : Fr h g2 (y + 10) (y + 16) := F.trans (F2.wide (by omega) (by omega))
      refine q g3 ((F02.lf (y := y) (c := y + 10) (by omega) (by omega) (by omega)).trans (by rw [e3]; exact Lf.m)) ⟨?_, ?_, ?_⟩
      · rw [e3, hfI_sfI, if_pos rfl, if_pos rfl]; omega
      · intro i hi
        have := MW i hi
        rw [e3, haI_sfI, F2.ai (by omega), F2.ai (by omega), F2.ai (by omega), F2.ai (by omega)]
        exact this
      · intro u hu
        rw [e3, haI_sfI]
        by_cases e : u = t
        · subst e
          exact ⟨by rw [F2.ai (by omega)]; exact Hc, fun i hi => Sj i hi⟩
        · exact Sp2 u (by omega)
    · intro g3 e3
      refine ⟨by unfold inR; omega, ?_⟩
      intro x4 e4
      have v10 : haI g3 (y + 10) = u1 (haI g2 (y + 10)) ((40 : Int) * (t : Int) + (j : Int)) (haI g2 (y + 14) (j : Int)) := by rw [e3, haI_saI, if_pos rfl]
      have vj : haI g2 (y + 14) (j : Int) = (mfr k (glM c0 c1 st) (s0M c0) w p (t + 1)).1 j := by rw [F2.ai (by omega)]; exact (MW j (by omega)).1
      refine ⟨k - (j + 1), by omega, (hJ _ _ _).mpr ⟨j + 1, by omega, rfl, by omega, F2.trans (by rw [e3]; exact Fr.sa (by omega) (by omega)), fun i hi => ?_, fun u hu => ⟨?_, fun i hi => ?_⟩⟩⟩
      · rw [v10, vj, u1_apply]
        by_cases e : i = j
        · subst e; rw [if_pos rfl]
        · rw [if_neg (by omega)]; exact Sj i (by omega)
      · rw [e3, haI_saI, if_neg (by omega)]; exact (Sp2 u hu).1
      · rw [v10, u1_apply, if_neg (by omega)]; exact (Sp2 u hu).2 i hi
  · have hk8 : k < n := by omega
    have hk9 : k < Nc c0 := by omega
    obtain ⟨z, hz⟩ : ∃ z, z = msw n (glM c0 c1 st) w p (t + 1) z0 k := ⟨_, rfl⟩
    have zs : msw n (glM c0 c1 st) w p (t + 1) z0 (k + 1) = mst n (glM c0 c1 st) w p (t + 1) z k := by rw [hz]; rfl
    have mk := msk k hk
    rw [← hz] at mk MW Hc
    obtain ⟨-, mk2, mk3⟩ := mk
    have mkk := mk2 k (Nat.le_refl _) hk8
    obtain ⟨b1, b2, b3, b4, -⟩ := mkk
    rw [z0c] at mk3
    obtain ⟨w1, w2, w3, w4⟩ := MW k hk8
    have go : ∀ g' : AH, Fr h g' (y + 10) (y + 16) → MW1 g' y n (glM c0 c1 st) (sti c0 c1 st) (mst n (glM c0 c1 st) w p (t + 1) z k) → haI g' (y + 11) t = ((mst n (glM c0 c1 st) w p (t + 1) z k).2.2.2.2 : Int) → MS g' y n (glM c0 c1 st) (s0M c0) w p t → (inR ((k : Int) + 1) ∧ ∀ x1_161 : Int, x1_161 = ((k : Int) + 1) → ∃ m, m < n - k ∧ I m x1_161 g') := by
      intro g' a1 a2 a3 a4
      exact ⟨by unfold inR; omega, fun x4 e4 => ⟨n - (k + 1), by omega, (hI _ _ _).mpr ⟨k + 1, by omega, rfl, by omega, a1, by rw [zs]; exact a2, by rw [zs]; exact a3, a4⟩⟩⟩
    refine ⟨by rw [okA_of kt], d_isGoing Vg Pg hk9 w1 ?_⟩
    rw [jn_def]
    by_cases G : glM c0 c1 st k ≠ -1 ∧ z.1 k ≠ glM c0 c1 st k
    · rw [if_pos G]
      have hn1 := (gl_ne (c1 := c1) (st := st) hk9).mp G.1
      have gb := gl_bd (c1 := c1) (st := st) hk9 hn1
      have nx := nxc_ok (w := w) b1 gb G.2
      refine ⟨fun h => absurd h (by omega), fun _ => ⟨by rw [okA_of kt], d_nextOf Vg Pg hk9 hn1 w1 b1 ?_⟩⟩
      rw [← hw]
      obtain ⟨nxt, hnxt⟩ : ∃ nxt, nxt = nxc w (z.1 k) (glM c0 c1 st k) := ⟨_, rfl⟩
      rw [← hnxt] at nx ⊢
      have ez : mst n (glM c0 c1 st) w p (t + 1) z k = if 0 < cT (glM c0 c1 st) z.1 n nxt ∧ z.2.1 k < p then (z.1, un z.2.1 k (z.2.1 k + 1), un z.2.2.1 k (z.2.2.1 k + 1), z.2.2.2.1, z.2.2.2.2 + 1) else (un z.1 k nxt, un z.2.1 k 0, z.2.2.1, (if nxt = glM c0 c1 st k then un z.2.2.2.1 k ((t + 1 : Nat) : Int) else z.2.2.2.1), z.2.2.2.2) := by
        unfold mst
        rw [if_pos G, ← hnxt]
      obtain ⟨H, hH⟩ : ∃ H : Prop, H = (0 < cT (glM c0 c1 st) z.1 n nxt ∧ z.2.1 k < p) := ⟨_, rfl⟩
      have hB : ∃ b : Bool, (b = true ↔ H) := by
        by_cases h : H
        · exact ⟨true, fun _ => h, fun _ => rfl⟩
        · exact ⟨false, fun e => absurd e Bool.false_ne_true, fun e => absurd e h⟩
      obtain ⟨b, hb⟩ := hB
      refine ⟨by rw [okA_of kt], y + 13, kr13, by rw [okI_of ka13]; omega, by rw [okA_of kt], d_of K Vg.2.1 (by omega) ?_⟩
      have e5 : s2 (5 : Int).toNat = p := hpe.symm
      rw [e5, w2]
      refine jn_a1 (if b = true then 1 else 0) g (fun f hf => ?_) ?_
      · have no : ¬ H → f 0 g := fun h => by rw [if_neg (fun e => h (hb.mp e))] at hf; exact hf
        rw [jn_def]
        refine ⟨fun hle => no (fun h => by rw [hH] at h; omega), fun hgt => ⟨by rw [okA_of kt], d_isTaken Vg Pg (cl := z.1) (fun i hi => (MW i (by omega)).1) (fun e => nx.2.2.2 e.symm) ?_⟩⟩
        rw [← hn]
        by_cases hT : 0 < cT (glM c0 c1 st) z.1 n nxt
        · rw [if_pos hT]
          refine ⟨fun h => absurd h (by omega), fun _ => ?_⟩
          rw [if_pos (hb.mpr (by rw [hH]; exact ⟨hT, by omega⟩))] at hf; exact hf
        · rw [if_neg hT]
          exact ⟨fun _ => no (fun h => by rw [hH] at h; exact hT h.1), fun h => absurd rfl h⟩
      refine ⟨by rw [okA_of kt], y + 13, kr13, jn_a1 (if b = true then z.2.1 k + 1 else 0) g (fun f hf => ?_) ⟨by rw [okW_of ka13]; omega, ?_⟩⟩
      · cases b with
        | false => exact ⟨fun _ => hf, fun h => absurd rfl h⟩
        | true => exact ⟨fun h => absurd h (by decide), fun _ => ⟨by rw [okA_of kt], y + 13, kr13, by rw [okI_of ka13]; omega, by rw [w2]; unfold inR; omega, by rw [w2]; exact hf⟩⟩
      intro g1 eg1
      have F1 : Fr g g1 (y + 10) (y + 16) := by rw [eg1]; exact Fr.sa (by omega) (by omega)
      have K1 := K.fr F1
      have r1 : haI g1 (y + 12) (k : Int) = z.2.2.1 k := by rw [eg1, haI_saI, if_neg (by omega)]; exact w3
      have m1 : hfI g1 y 12 = (t : Int) := by rw [F1.fi (by omega)]; exact mv
      refine ⟨by rw [okA_of K1.1], y + 12, K1.2.2.2.2.2.2.2.2.2.2.2.2.2.2.1, by rw [okI_of K1.2.2.1.2.2.2.2.2.2.2.2.2.2.2.1]; omega, ?_⟩
      rw [r1]
      refine jn_a1 (if b = true then 1 else 0) g1 (fun f hf => ?_) ⟨by cases b <;> (unfold inR; simp only [if_true, if_false, reduceIte, Bool.false_eq_true]; omega), by rw [okW_of K1.2.2.1.2.2.2.2.2.2.2.2.2.2.2.1]; have := K1.2.1; omega, ?_⟩
      · cases b with
        | false => exact ⟨fun _ => hf, fun h => absurd rfl h⟩
        | true => exact ⟨fun h => absurd h (by decide), fun _ => hf⟩
      intro g2 eg2
      have F2 : Fr g1 g2 (y + 10) (y + 16) := by rw [eg2]; exact Fr.sa (by omega) (by omega)
      have K2 := K1.fr F2
      have m2 : hfI g2 y 12 = (t : Int) := by rw [F2.fi (by omega)]; exact m1
      have r2 : haI g2 (y + 11) (t : Int) = (z.2.2.2.2 : Int) := by rw [eg2, haI_saI, if_neg (by omega), eg1, haI_saI, if_neg (by omega)]; exact Hc
      refine ⟨by rw [okA_of K2.1], y + 11, K2.2.2.2.2.2.2.2.2.2.2.2.2.2.1, by rw [okA_of K2.1], ?_⟩
      rw [m2]
      refine ⟨by rw [okI_of K2.2.2.1.2.2.2.2.2.2.2.2.2.2.1]; omega, ?_⟩
      rw [r2]
      refine jn_a1 (if b = true then 1 else 0) g2 (fun f hf => ?_) ⟨by cases b <;> (unfold inR; simp only [if_true, if_false, reduceIte, Bool.false_eq_true]; omega), by rw [okW_of K2.2.2.1.2.2.2.2.2.2.2.2.2.2.1]; have := K2.2.1; omega, ?_⟩
      · cases b with
        | false => exact ⟨fun _ => hf, fun h => absurd rfl h⟩
        | true => exact ⟨fun h => absurd h (by decide), fun _ => hf⟩
      intro g3 eg3
      have F3 : Fr g2 g3 (y + 10) (y + 16) := by rw [eg3]; exact Fr.sa (by omega) (by omega)
      have K3 := K2.fr F3
      have r3 : haI g3 (y + 14) (k : Int) = z.1 k := by rw [eg3, haI_saI, if_neg (by omega), eg2, haI_saI, if_neg (by omega), eg1, haI_saI, if_neg (by omega)]; exact w1
      refine ⟨by rw [okA_of K3.1], y + 14, K3.2.2.2.2.2.2.2.2.2.2.2.2.2.2.2.2.1, jn_a1 (if b = true then z.1 k else nxt) g3 (fun f hf => ?_) ⟨by rw [okW_of K3.2.2.1.2.2.2.2.2.2.2.2.2.2.2.2.2.1]; have := K3.2.1; omega, ?_⟩⟩
      · cases b with
        | false => exact ⟨fun _ => hf, fun h => absurd rfl h⟩
        | true => exact ⟨fun h => absurd h (by decide), fun _ => ⟨by rw [okA_of K3.1], y + 14, K3.2.2.2.2.2.2.2.2.2.2.2.2.2.2.2.2.1, by rw [okI_of K3.2.2.1.2.2.2.2.2.2.2.2.2.2.2.2.2.1]; omega, by rw [r3]; exact hf⟩⟩
      intro g4 eg4
      have F4 : Fr g3 g4 (y + 10) (y + 16) := by rw [eg4]; exact Fr.sa (by omega) (by omega)
      have K4 := K3.fr F4
      have FF := F1.trans (F2.trans (F3.trans F4))
      have V4 := Vg.fr FF (by omega)
      have P4 := Pg.fr FF (by omega)
      have m4 : hfI g4 y 12 = (t : Int) := by rw [FF.fi (by omega)]; exact mv
      refine ⟨by rw [okA_of K4.1], y + 15, K4.2.2.2.2.2.2.2.2.2.2.2.2.2.2.2.2.2.1, by rw [okA_of K4.1], d_firstMoving V4 P4 e6 ?_⟩
      rw [m4]
      refine ⟨by rw [okA_of K4.1], by unfold inR; omega, by rw [okW_of K4.2.2.1.2.2.2.2.2.2.2.2.2.2.2.2.2.2.1]; have := K4.2.1; omega, ?_⟩
      intro g5 eg5
      have F5 : Fr g4 g5 (y + 10) (y + 16) := by rw [eg5]; exact Fr.sa (by omega) (by omega)
      have u13 : haI g5 (y + 13) = u1 (haI g (y + 13)) (k : Int) (if b = true then z.2.1 k + 1 else 0) := by
        rw [eg5, haI_saI, if_neg (by omega), eg4, haI_saI, if_neg (by omega), eg3, haI_saI, if_neg (by omega), eg2, haI_saI, if_neg (by omega), eg1, haI_saI, if_pos rfl]
      have u12 : haI g5 (y + 12) = u1 (haI g (y + 12)) (k : Int) (z.2.2.1 k + (if b = true then 1 else 0)) := by
        rw [eg5, haI_saI, if_neg (by omega), eg4, haI_saI, if_neg (by omega), eg3, haI_saI, if_neg (by omega), eg2, haI_saI, if_pos rfl, eg1, haI_saI, if_neg (by omega)]
      have u11 : haI g5 (y + 11) = u1 (haI g (y + 11)) (t : Int) ((z.2.2.2.2 : Int) + (if b = true then 1 else 0)) := by
        rw [eg5, haI_saI, if_neg (by omega), eg4, haI_saI, if_neg (by omega), eg3, haI_saI, if_pos rfl, eg2, haI_saI, if_neg (by omega), eg1, haI_saI, if_neg (by omega)]
      have u14 : haI g5 (y + 14) = u1 (haI g (y + 14)) (k : Int) (if b = true then z.1 k else nxt) := by
        rw [eg5, haI_saI, if_neg (by omega), eg4, haI_saI, if_pos rfl, eg3, haI_saI, if_neg (by omega), eg2, haI_saI, if_neg (by omega), eg1, haI_saI, if_neg (by omega)]
      have u15 : haI g5 (y + 15) = u1 (haI g (y + 15)) (k : Int) (1 + sti c0 c1 st + (t : Int)) := by
        rw [eg5, haI_saI, if_pos rfl, eg4, haI_saI, if_neg (by omega), eg3, haI_saI, if_neg (by omega), eg2, haI_saI, if_neg (by omega), eg1, haI_saI, if_neg (by omega)]
      have u10 : haI g5 (y + 10) = haI g (y + 10) := by
        rw [eg5, haI_saI, if_neg (by omega), eg4, haI_saI, if_neg (by omega), eg3, haI_saI, if_neg (by omega), eg2, haI_saI, if_neg (by omega), eg1, haI_saI, if_neg (by omega)]
      refine go g5 (F.trans (FF.trans F5)) (fun j hj => ?_) ?_ (fun u hu => ?_)
      · by_cases e : j = k
        · subst e
          rw [u12, u13, u14, u15, u1_apply, u1_apply, u1_apply, u1_apply, if_pos rfl, if_pos rfl, if_pos rfl, if_pos rfl, ez]
          cases b with
          | true =>
            have hh := hb.mp rfl
            rw [hH] at hh
            rw [if_pos hh, if_pos rfl, if_pos rfl, if_pos rfl]
            refine ⟨rfl, ?_, ?_, fun h => absurd G h⟩
            · show _ = un z.2.1 j _ j; rw [un_s]
            · show _ = un z.2.2.1 j _ j; rw [un_s]
          | false =>
            have hh : ¬ (0 < cT (glM c0 c1 st) z.1 n nxt ∧ z.2.1 j < p) := fun h => by
              have := hb.mpr (by rw [hH]; exact h)
              cases this
            rw [if_neg hh, if_neg Bool.false_ne_true, if_neg Bool.false_ne_true, if_neg Bool.false_ne_true]
            refine ⟨?_, ?_, Int.add_zero _, fun h => ?_⟩
            · show _ = un z.1 j _ j; rw [un_s]
            · show _ = un z.2.1 j _ j; rw [un_s]
            · have en : nxt = glM c0 c1 st j := by
                by_cases e : nxt = glM c0 c1 st j
                · exact e
                · exact absurd ⟨G.1, by show un z.1 j nxt j ≠ _; rw [un_s]; exact e⟩ h
              show _ = ar (sti c0 c1 st) ((if nxt = glM c0 c1 st j then un z.2.2.2.1 j ((t + 1 : Nat) : Int) else z.2.2.2.1) j)
              rw [if_pos en, un_s]; unfold ar; rw [if_neg (by omega)]; omega
        · obtain ⟨o1, o2, o3, o4⟩ := mst_o (n := n) (gl := glM c0 c1 st) (w := w) (p := p) (t := t + 1) (z := z) (k := k) (j := j) e
          rw [u12, u13, u14, u15, u1_apply, u1_apply, u1_apply, u1_apply, if_neg (by omega), if_neg (by omega), if_neg (by omega), if_neg (by omega), o1, o2, o3, o4]
          exact MW j hj
      · rw [u11, u1_apply, if_pos rfl, ez]
        cases b with
        | true =>
          have hh := hb.mp rfl
          rw [hH] at hh
          rw [if_pos hh, if_pos rfl]
          show _ = ((z.2.2.2.2 + 1 : Nat) : Int); omega
        | false =>
          have hh : ¬ (0 < cT (glM c0 c1 st) z.1 n nxt ∧ z.2.1 k < p) := fun h => by
            have := hb.mpr (by rw [hH]; exact h)
            cases this
          rw [if_neg hh, if_neg Bool.false_ne_true]
          show _ = (z.2.2.2.2 : Int); omega
      · rw [u10, u11, u1_apply, if_neg (by omega)]; exact Sp u hu
    · rw [if_neg G]
      have ez : mst n (glM c0 c1 st) w p (t + 1) z k = z := by unfold mst; rw [if_neg G]
      exact ⟨fun _ => go g F (by rw [ez]; exact MW) (by rw [ez]; exact Hc) Sp, fun h => absurd rfl h⟩
/-- the frames are laid -/
def MLy (h : AH) (y : Nat) (c0 c1 st : Nat → Int) (F : Nat) : Prop := MV0 h y c0 c1 st ∧ MP h y c0 c1 (prA c0 c1 st) ∧ MFr h y (Nc c0) (glM c0 c1 st) (s0M c0) (st 4) (st 5) (sti c0 c1 st) F ∧ isFF c0 c1 st F
theorem MFr.lf0 {h : AH} {y n : Nat} {gl s0 : Nat → Int} {w p s : Int} (e : hfI h y 12 = 0) (hc : ∀ k : Nat, k < n → haI h (y + 14) k = s0 k ∧ haI h (y + 13) k = 0 ∧ haI h (y + 12) k = 0 ∧ haI h (y + 15) k = 0) : MFr h y n gl s0 w p s 0 := by
  refine ⟨e, fun j hj => ?_, fun u hu => by omega⟩
  obtain ⟨a, b, c, d⟩ := hc j hj
  exact ⟨a, b, c, fun _ => by rw [d]; show (0 : Int) = ar s 0; unfold ar; rw [if_pos rfl]⟩
set_option maxHeartbeats 2000000 in
theorem d_layFrames {zz : Nat → Nat} {y : Nat} {h : AH} {Q : AH → Prop} {c0 c1 st s2 : Nat → Int} (V : MV0 h y c0 c1 s2) (P : MP h y c0 c1 (prA c0 c1 st)) (e6 : s2 6 = st 6) (q : ∀ (F : Nat) (h' : AH), Lf h h' y (y + 10) → MFr h' y (Nc c0) (glM c0 c1 st) (s0M c0) (s2 4) (s2 5) (sti c0 c1 st) F → (isF (Nc c0) (glM c0 c1 st) (s0M c0) (s2 4) (s2 5) (if 0 < cK (kfA c0 c1 st) (Nc c0) 3 then 1 else 0) F ∧ F ≤ 190) → Q h') : w_X7_layFrames zz y h Q := by
  have h0 := V.2.2.2.1.n
  have gs := V.2.2.2.2.2
  have hp : 0 ≤ s2 5 ∧ s2 5 ≤ 9 := gs.2.2.2.2.2.1
  have K0 := V.1
  have glb : ∀ k, k < Nc c0 → glM c0 c1 st k = -1 ∨ 0 ≤ glM c0 c1 st k ∧ glM c0 c1 st k < 80 := by
    intro k hk
    rcases glA_ok (c1 := c1) (pw_A (c0 := c0) (c1 := c1) (st := st)) k hk with h | h
    · exact .inl h.1
    · exact .inr h.1
  have s0b : ∀ k, k < Nc c0 → 0 ≤ s0M c0 k ∧ s0M c0 k < 80 := fun k hk => by
    have := Lc_lt hk
    show 0 ≤ (Lc c0 k : Int) ∧ (Lc c0 k : Int) < 80
    omega
  unfold w_X7_layFrames
  refine ⟨by rw [okP_of K0.1]; exact ⟨rfl, K0.2.1⟩, ?_⟩
  intro g0 eg0
  have L0 : Lf h g0 y (y + 10) := by rw [eg0]; exact Lf.m
  have m0 : hfI g0 y 12 = 0 := by rw [eg0, hfI_sfI, if_pos rfl, if_pos rfl]
  clear eg0
  obtain ⟨I, hI⟩ : ∃ I : Nat → Int → AH → Prop, ∀ m x h', I m x h' ↔ ∃ k : Nat, k ≤ Nc c0 ∧ m = Nc c0 - k ∧ x = (k : Int) ∧ Lf h h' y (y + 10) ∧ hfI h' y 12 = 0 ∧ ∀ j : Nat, j < k → haI h' (y + 14) j = (Lc c0 j : Int) ∧ haI h' (y + 13) j = 0 ∧ haI h' (y + 12) j = 0 ∧ haI h' (y + 15) j = 0 := ⟨_, fun _ _ _ => Iff.rfl⟩
  refine ⟨I, ⟨_, (hI _ _ _).mpr ⟨0, by omega, rfl, rfl, L0, m0, fun j hj => by omega⟩⟩, ?_⟩
  clear L0 m0 g0
  intro m x g hi9
  obtain ⟨k, hk, rfl, rfl, L, m0, C⟩ := (hI _ _ _).mp hi9
  have Vg := V.lf L (by omega)
  have Pg := P.lf L (by omega)
  have K := Vg.1
  have n0 := Vg.2.2.1.1
  refine ⟨by rw [okA_of K.1], y + 4, K.2.2.2.2.2.2.1, by rw [okI_of K.2.2.1.2.2.2.1]; omega, ?_⟩
  rw [n0]
  refine ⟨fun hc => ⟨by rw [okA_of K.1], d_ofKind0 Vg Pg ?_⟩, fun hc => ?_⟩
  · obtain rfl : k = Nc c0 := by omega
    have M0 : MFr g y (Nc c0) (glM c0 c1 st) (s0M c0) (s2 4) (s2 5) (sti c0 c1 st) 0 := MFr.lf0 m0 C
    obtain ⟨t0, ht0⟩ : ∃ t0 : Nat, t0 = if 0 < cK (kfA c0 c1 st) (Nc c0) 3 then 1 else 0 := ⟨_, rfl⟩
    rw [← ht0] at q
    have lp : ∀ g' : AH, Lf h g' y (y + 10) → MFr g' y (Nc c0) (glM c0 c1 st) (s0M c0) (s2 4) (s2 5) (sti c0 c1 st) t0 → ∃ I_69 : Nat → AH → Prop, (∃ n, I_69 n g') ∧ ∀ (n_69 : Nat) (h_69 : AH), I_69 n_69 h_69 → (okA h_69 y 7 ∧ w_X7_anyGoes zz y h_69 (fun (r70 : Int) (h70 : AH) => ((r70 = 0) → Q h70) ∧ ((¬ (r70 = 0)) → okA h70 y 7 ∧ w_X7_layFrame zz y h70 (fun (h77 : AH) => ∃ m, m < n_69 ∧ I_69 m h77)))) := by
      intro g' Lg Mg
      obtain ⟨J, hJ⟩ : ∃ J : Nat → AH → Prop, ∀ m h', J m h' ↔ ∃ t : Nat, t0 ≤ t ∧ t ≤ 190 ∧ m = 190 - t ∧ Lf h h' y (y + 10) ∧ MFr h' y (Nc c0) (glM c0 c1 st) (s0M c0) (s2 4) (s2 5) (sti c0 c1 st) t ∧ ∀ u, t0 ≤ u → u < t → 0 < cG (glM c0 c1 st) (mfr (Nc c0) (glM c0 c1 st) (s0M c0) (s2 4) (s2 5) u).1 (Nc c0) := ⟨_, fun _ _ => Iff.rfl⟩
      have ht01 : t0 ≤ 1 := by rw [ht0]; split <;> omega
      refine ⟨J, ⟨190 - t0, (hJ _ _).mpr ⟨t0, Nat.le_refl _, by omega, rfl, Lg, Mg, fun u h1 h2 => by omega⟩⟩, ?_⟩
      intro m h' hj9
      obtain ⟨t, t1, t2, rfl, Lh, Mh, Gh⟩ := (hJ _ _).mp hj9
      have Vh := V.lf Lh (by omega)
      have Ph := P.lf Lh (by omega)
      refine ⟨by rw [okA_of Vh.1.1], d_anyGoes Vh Ph (cl := (mfr (Nc c0) (glM c0 c1 st) (s0M c0) (s2 4) (s2 5) t).1) (fun k hk => (Mh.2.1 k hk).1) ?_⟩
      by_cases G : 0 < cG (glM c0 c1 st) (mfr (Nc c0) (glM c0 c1 st) (s0M c0) (s2 4) (s2 5) t).1 (Nc c0)
      · rw [if_pos G]
        have t3 : t < 190 := by
          by_cases e : 190 ≤ t
          · have := mfr_end (w := s2 4) hp glb s0b e
            omega
          · omega
        refine ⟨fun h => absurd h (by omega), fun _ => ⟨by rw [okA_of Vh.1.1], d_layFrame Vh Ph e6 (by omega) Mh (fun g2 L2 M2 => ⟨190 - (t + 1), by omega, (hJ _ _).mpr ⟨t + 1, by omega, by omega, rfl, Lh.trans L2, M2, fun u h1 h2 => ?_⟩⟩)⟩⟩
        by_cases e : u = t
        · rw [e]; exact G
        · exact Gh u h1 (by omega)
      · rw [if_neg G]
        exact ⟨fun _ => q t h' Lh Mh ⟨⟨t1, by omega, Gh⟩, t2⟩, fun h => absurd rfl h⟩
    rw [jn_def]
    show ((cK (kfA c0 c1 st) (Nc c0) 3 : Int) ≤ 0 → _) ∧ (¬ (cK (kfA c0 c1 st) (Nc c0) 3 : Int) ≤ 0 → _)
    refine ⟨fun hle => lp g L ?_, fun hgt => ⟨by rw [okA_of K.1], d_layFrame Vg Pg e6 (by omega) M0 (fun g2 L2 M2 => lp g2 (L.trans L2) ?_)⟩⟩
    · rw [if_neg (by omega)] at ht0; rw [ht0]; exact M0
    · rw [if_pos (by omega)] at ht0; rw [ht0]; exact M2
  · have hk8 : k < Nc c0 := by omega
    have e5 := (Vg.2.2.1.2.2.1 k hk8).1
    refine ⟨by rw [okA_of K.1], y + 14, K.2.2.2.2.2.2.2.2.2.2.2.2.2.2.2.2.1, by rw [okA_of K.1], y + 5, K.2.2.2.2.2.2.2.1, by rw [okI_of K.2.2.1.2.2.2.2.1]; omega, by rw [okW_of K.2.2.1.2.2.2.2.2.2.2.2.2.2.2.2.2.1]; have := K.2.1; omega, ?_⟩
    rw [e5]
    intro g1 eg1
    have F1 : Fr g g1 (y + 10) (y + 16) := by rw [eg1]; exact Fr.sa (by omega) (by omega)
    have K1 := K.fr F1
    refine ⟨by rw [okA_of K1.1], y + 13, K1.2.2.2.2.2.2.2.2.2.2.2.2.2.2.2.1, by rw [okW_of K1.2.2.1.2.2.2.2.2.2.2.2.2.2.2.2.1]; have := K1.2.1; omega, ?_⟩
    intro g2 eg2
    have F2 : Fr g1 g2 (y + 10) (y + 16) := by rw [eg2]; exact Fr.sa (by omega) (by omega)
    have K2 := K1.fr F2
    refine ⟨by rw [okA_of K2.1], y + 12, K2.2.2.2.2.2.2.2.2.2.2.2.2.2.2.1, by rw [okW_of K2.2.2.1.2.2.2.2.2.2.2.2.2.2.2.1]; have := K2.2.1; omega, ?_⟩
    intro g3 eg3
    have F3 : Fr g2 g3 (y + 10) (y + 16) := by rw [eg3]; exact Fr.sa (by omega) (by omega)
    have K3 := K2.fr F3
    refine ⟨by rw [okA_of K3.1], y + 15, K3.2.2.2.2.2.2.2.2.2.2.2.2.2.2.2.2.2.1, by rw [okW_of K3.2.2.1.2.2.2.2.2.2.2.2.2.2.2.2.2.2.1]; have := K3.2.1; omega, ?_⟩
    intro g4 eg4
    have F4 : Fr g3 g4 (y + 10) (y + 16) := by rw [eg4]; exact Fr.sa (by omega) (by omega)
    refine ⟨by unfold inR; omega, ?_⟩
    intro x4 e4
    have FF := F1.trans (F2.trans (F3.trans F4))
    have u14 : haI g4 (y + 14) = u1 (haI g (y + 14)) (k : Int) (Lc c0 k : Int) := by
      rw [eg4, haI_saI, if_neg (by omega), eg3, haI_saI, if_neg (by omega), eg2, haI_saI, if_neg (by omega), eg1, haI_saI, if_pos rfl]
    have u13 : haI g4 (y + 13) = u1 (haI g (y + 13)) (k : Int) 0 := by
      rw [eg4, haI_saI, if_neg (by omega), eg3, haI_saI, if_neg (by omega), eg2, haI_saI, if_pos rfl, eg1, haI_saI, if_neg (by omega)]
    have u12 : haI g4 (y + 12) = u1 (haI g (y + 12)) (k : Int) 0 := by
      rw [eg4, haI_saI, if_neg (by omega), eg3, haI_saI, if_pos rfl, eg2, haI_saI, if_neg (by omega), eg1, haI_saI, if_neg (by omega)]
    have u15 : haI g4 (y + 15) = u1 (haI g (y + 15)) (k : Int) 0 := by
      rw [eg4, haI_saI, if_pos rfl, eg3, haI_saI, if_neg (by omega), eg2, haI_saI, if_neg (by omega), eg1, haI_saI, if_neg (by omega)]
    refine ⟨Nc c0 - (k + 1), by omega, (hI _ _ _).mpr ⟨k + 1, by omega, rfl, by omega, L.trans (FF.lf (by omega) (by omega) (by omega)), by rw [FF.fi (by omega)]; exact m0, fun j hj => ?_⟩⟩
    rw [u12, u13, u14, u15, u1_apply, u1_apply, u1_apply, u1_apply]
    by_cases e : j = k
    · subst e; rw [if_pos rfl, if_pos rfl, if_pos rfl, if_pos rfl]; exact ⟨rfl, rfl, rfl, rfl⟩
    · rw [if_neg (by omega), if_neg (by omega), if_neg (by omega), if_neg (by omega)]; exact C j (by omega)
theorem d_lay {zz : Nat → Nat} {y : Nat} {h : AH} {Q : AH → Prop} {c0 c1 st : Nat → Int} (K : MdK h y) (Z : ZR h y c0 c1 st) (g0 : GC c0) (g1 : GC c1) (gs : GS st) (q : ∀ (F : Nat) (h' : AH), Lf h h' y (y + 4) → MLy h' y c0 c1 st F → Q h') : w_X7_lay zz y h Q := by
  unfold w_X7_lay
  refine ⟨by rw [okA_of K.1], d_layLetters K Z g0 g1 gs (fun h1 F1 V1 P1 => ⟨by rw [okA_of V1.1.1], d_layCommon V1 P1 (fun h2 F2 P2 => ?_)⟩)⟩
  have V2 := V1.fr F2 (by omega)
  refine ⟨by rw [okA_of V2.1.1], d_layNearest V2 P2 (.inl rfl) (reach := st 1) (by rw [if_pos rfl]) (fun h3 F3 P3 => ?_)⟩
  have V3 := V2.fr F3 (by omega)
  refine ⟨by rw [okA_of V3.1.1], d_layNearest V3 P3 (.inr rfl) (reach := st 2) (by rw [if_neg (by omega)]) (fun h4 F4 P4 => ?_)⟩
  have V4 := V3.fr F4 (by omega)
  refine ⟨by rw [okA_of V4.1.1], d_layFrames V4 P4 rfl (fun F h5 L5 M5 i5 => ?_)⟩
  refine q F h5 ((F1.lf (by omega) (by omega) (by omega)).trans ((F2.lf (by omega) (by omega) (by omega)).trans ((F3.lf (by omega) (by omega) (by omega)).trans ((F4.lf (by omega) (by omega) (by omega)).trans (L5.wide (by omega)))))) ⟨V4.lf L5 (by omega), MP.lf P4 L5 (by omega), M5, i5⟩
