/-! SECOND LAW, 6: its search for the common letters, walked -/
theorem pow_256 {n : Nat} (h : n ≤ 8) : 2 ^ n ≤ 256 := Nat.pow_le_pow_right (by omega) h
set_option maxHeartbeats 2000000 in
theorem l_common {zz : Nat → Nat} {b p : Nat} {h : AH} {Q : AH → Prop} {c0 c1 st : Nat → Int} (K : LK h b c0 c1 st) (P : PaR h p (Nc c0) (fun _ => -1) (fun _ => 4)) (hb : b + 4 ≤ p) (hp : p < hn h) (q : ∀ h' : AH, Gn h h' p (p + 1) → hn h' = hn h + 2 → PaR h' p (Nc c0) (prC c0 c1).1 (prC c0 c1).2.2.1 → Q h') : w_L_common zz b (b + 1) (b + 2) p h Q := by
  obtain ⟨n8, m8⟩ := K.2.2.2.2.1
  obtain ⟨e, he⟩ : ∃ e, e = eqB c0 c1 := ⟨_, rfl⟩
  obtain ⟨n0, hn0⟩ : ∃ n, n = Nc c0 := ⟨_, rfl⟩
  obtain ⟨n1, hn1⟩ : ∃ n, n = Nc c1 := ⟨_, rfl⟩
  obtain ⟨L, hL⟩ : ∃ L, L = lgT e n0 n1 0 0 := ⟨_, rfl⟩
  obtain ⟨O, hO⟩ : ∃ O, O = cmO e n0 n1 n0 := ⟨_, rfl⟩
  obtain ⟨S, hS1, hS⟩ := set_is n0 (fun i => (cmT e n0 n1 i).isSome)
  have hL8 : L ≤ n0 := by rw [hL]; exact lgT_bd
  obtain ⟨u, hu⟩ : ∃ u, u = hn h := ⟨_, rfl⟩
  have pw256 := pow_256 (n := n0) (by omega)
  unfold w_L_common
  intro g1 e1 x4 ex4 g0 e0 x5 ex5
  have x4u : x4 = u := by rw [ex4, hu]
  have x5u : x5 = u + 1 := by rw [ex5, e1, hn_nAI, hu]
  subst x4u
  subst x5u
  clear ex4 ex5
  have G0 : Gn h g0 p (p + 1) := by rw [e0, e1]; exact ((Gn.refl h p (p + 1)).ai).ai
  have K0 : LK g0 b c0 c1 st := K.gn G0 (by omega) (by omega)
  have P0 : PaR g0 p (Nc c0) (fun _ => -1) (fun _ => 4) := by
    refine P.cong G0.1 ⟨(G0.2.2 p hp).1, ?_⟩
    rw [e0, e1, haI_nAI, hn_nAI, if_neg (by omega), haI_nAI, if_neg (by omega)]
  have ku : hkd g0 x4 = (1, 8) := by rw [e0, e1, hkd_nAI, hn_nAI, if_neg (by omega), hkd_nAI, if_pos hu]
  have ku1 : hkd g0 (x4 + 1) = (1, 8) := by rw [e0, e1, hkd_nAI, hn_nAI, if_pos (by omega)]
  have hng : hn g0 = hn h + 2 := by rw [e0, e1, hn_nAI, hn_nAI]
  have lo0 : hlo g0 ≤ b := K0.2.2.2.1
  have kd := K0.2.1.1
  have fin : ∀ g, Fr g0 g x4 (x4 + 2) → (∀ k : Nat, k < L → haI g x4 (k : Int) = O k) → ∃ I_296 : Nat → Int → AH → Prop, (∃ n, n ≤ 1000 ∧ I_296 n (0 : Int) g) ∧ ∀ (n_296 : Nat) (x7_296 : Int) (h_296 : AH), I_296 n_296 x7_296 h_296 → ((((L : Int) ≤ x7_296) → Q h_296) ∧ ((¬ ((L : Int) ≤ x7_296)) → okI h_296 x4 x7_296 ∧ (0 ≤ (haI h_296 x4 x7_296) ∧ 0 < (100 : Int)) ∧ inR ((2 : Int) * ((haI h_296 x4 x7_296) / (100 : Int))) ∧ okI h_296 x4 x7_296 ∧ (0 ≤ (haI h_296 x4 x7_296) ∧ 0 < (100 : Int)) ∧ okW h_296 p ((2 : Int) * ((haI h_296 x4 x7_296) / (100 : Int))) ∧ ∀ h322 : AH, h322 = saI h_296 p (u1 (haI h_296 p) ((2 : Int) * ((haI h_296 x4 x7_296) / (100 : Int))) ((haI h_296 x4 x7_296) % (100 : Int))) → okI h322 x4 x7_296 ∧ (0 ≤ (haI h322 x4 x7_296) ∧ 0 < (100 : Int)) ∧ inR ((2 : Int) * ((haI h322 x4 x7_296) / (100 : Int))) ∧ inR (((2 : Int) * ((haI h322 x4 x7_296) / (100 : Int))) + (1 : Int)) ∧ okW h322 p (((2 : Int) * ((haI h322 x4 x7_296) / (100 : Int))) + (1 : Int)) ∧ ∀ h337 : AH, h337 = saI h322 p (u1 (haI h322 p) (((2 : Int) * ((haI h322 x4 x7_296) / (100 : Int))) + (1 : Int)) (1 : Int)) → inR (x7_296 + 1) ∧ ∀ x7_338 : Int, x7_338 = (x7_296 + 1) → ∃ m, m < n_296 ∧ I_296 m x7_338 h337)) := by
    intro g F hg
    obtain ⟨I, hI⟩ : ∃ I : Nat → Int → AH → Prop, ∀ m x g', I m x g' ↔ ∃ k : Nat, k ≤ L ∧ m = L - k ∧ x = (k : Int) ∧ Fr g g' p (p + 1) ∧ PaR g' p n0 (cmW1 e n0 n1 k) (cmW2 e n0 n1 k) := ⟨_, fun _ _ _ => Iff.rfl⟩
    refine ⟨I, ⟨_, by omega, (hI _ _ _).mpr ⟨0, Nat.zero_le _, rfl, rfl, Fr.refl _ _ _, ?_⟩⟩, ?_⟩
    · have P1 := P0.fr F (by omega)
      refine ⟨P1.1, P1.2.1, fun i hi => ?_⟩
      rw [cmW_0.1, cmW_0.2]
      exact P1.2.2 i (by omega)
    intro m x g' hi9
    obtain ⟨k, hk, rfl, rfl, F2, P2⟩ := (hI _ _ _).mp hi9
    have kd2 : hkd g' = hkd g0 := F2.kd.trans F.kd
    refine ⟨fun hc => ?_, fun hc => ?_⟩
    · have hkL : k = L := by omega
      refine q g' ((G0.old F (by omega)).trans (F2.gn (Nat.le_refl _) (Nat.le_refl _))) (by rw [F2.n, F.n, hng]) ⟨P2.1, P2.2.1, fun i hi => ?_⟩
      rw [(P2.2.2 i (by omega)).1, (P2.2.2 i (by omega)).2, hkL, hL, ← cm_full]
      have z := cmW_pt (eq := e) (n0 := n0) (n1 := n1) n0 (Nat.le_refl _) i (by omega)
      unfold prC
      rw [← he, ← hn0, ← hn1]
      exact ⟨z.1.symm, z.2.symm⟩
    · have hkL : k < L := by omega
      obtain ⟨i, j, i1, j1, t1, t2, t3⟩ := cm_nth (eq := e) (n0 := n0) (n1 := n1) (k := k) n0 (Nat.le_refl _) (by rw [cm_full, ← hL]; exact hkL)
      rw [← hO] at t3
      have v : haI g' x4 (k : Int) = 100 * (i : Int) + (j : Int) := by rw [F2.ai (by omega), hg k hkL, t3]
      have vi : (100 * (i : Int) + (j : Int)) / 100 = (i : Int) := by omega
      have vj : (100 * (i : Int) + (j : Int)) % 100 = (j : Int) := by omega
      rw [okI_of (show hkd g' x4 = (1, 8) by rw [kd2]; exact ku), okW_of P2.1, v, vi, vj]
      refine ⟨⟨by omega, by omega⟩, ⟨by omega, by omega⟩, by unfold inR; omega, ⟨by omega, by omega⟩, ⟨by omega, by omega⟩, ⟨by omega, by omega, P2.2.1⟩, ?_⟩
      intro g3 e3
      have v3 : haI g3 x4 (k : Int) = 100 * (i : Int) + (j : Int) := by rw [e3, haI_saI, if_neg (by omega)]; exact v
      rw [okI_of (show hkd g3 x4 = (1, 8) by rw [e3]; exact (show hkd g' x4 = (1, 8) by rw [kd2]; exact ku)), okW_of (show hkd g3 p = (1, 16) by rw [e3]; exact P2.1), v3, vi]
      refine ⟨⟨by omega, by omega⟩, ⟨by omega, by omega⟩, by unfold inR; omega, by unfold inR; omega, ⟨by omega, by omega, by rw [e3]; exact P2.2.1⟩, ?_⟩
      intro g4 e4
      refine ⟨by unfold inR; omega, fun y hy => ⟨_, by omega, (hI _ _ _).mpr ⟨k + 1, by omega, rfl, by omega, ?_, ?_⟩⟩⟩
      · rw [e4, e3]; exact (F2.tsa (by omega) (by omega)).tsa (by omega) (by omega)
      · refine ⟨by rw [e4, e3]; exact P2.1, by rw [e4, e3]; exact P2.2.1, fun a ha => ?_⟩
        have pu := P2.2.2 a ha
        obtain ⟨s1, s2⟩ := cmW_s t1 t2 a
        rw [s1, s2, e4, haI_saI, if_pos rfl, e3, haI_saI, if_pos rfl, u1_apply, u1_apply, u1_apply, u1_apply]
        by_cases ea : a = i
        · subst ea
          rw [if_pos rfl, if_pos rfl, if_neg (by omega), if_pos rfl, if_pos rfl]
          exact ⟨rfl, rfl⟩
        · rw [if_neg ea, if_neg ea, if_neg (by omega), if_neg (by omega), if_neg (by omega), if_neg (by omega)]
          exact pu
  -- sets
  obtain ⟨I, hI⟩ : ∃ I : Nat → Int → Int → AH → Prop, ∀ m x y g, I m x y g ↔ ∃ s most : Nat, 1 ≤ s ∧ s ≤ 2 ^ n0 ∧ m = 2 ^ n0 - s ∧ x = (most : Int) ∧ y = (s : Int) ∧ Fr g0 g x4 (x4 + 2) ∧ CSs L S s most O (fun k => haI g x4 (k : Int)) := ⟨_, fun _ _ _ _ => Iff.rfl⟩
  have pos : 1 ≤ 2 ^ n0 := Nat.one_le_two_pow
  refine ⟨I, ⟨_, by omega, (hI _ _ _ _).mpr ⟨1, 0, Nat.le_refl _, pos, rfl, rfl, rfl, Fr.refl _ _ _, Nat.zero_le _, fun h0 => .inl (fun k hk => by omega), fun h1 h2 => by omega⟩⟩, ?_⟩
  intro m x y g hi9
  obtain ⟨s, most, s1, s2, rfl, rfl, rfl, F, C⟩ := (hI _ _ _ _).mp hi9
  have Kg : LK g b c0 c1 st := K0.fr F (by omega)
  rw [okI_of Kg.2.1.1, Kg.2.1.2.1, ← hn0, toN, ← pow2_toNat]
  refine ⟨⟨by omega, by omega⟩, ⟨by omega, by omega⟩, fun hc => ?_, fun hc => ?_⟩
  · have hs : s = 2 ^ n0 := by omega
    have hm : most = L ∧ ∀ k, k < L → haI g x4 (k : Int) = O k := by
      by_cases hl0 : L = 0
      · exact ⟨by have := C.1; omega, fun k hk => by omega⟩
      · refine C.2.2 ?_ (by omega)
        obtain ⟨i, j, i1, -, t1, -⟩ := cm_nth (eq := e) (n0 := n0) (n1 := n1) (k := 0) n0 (Nat.le_refl _) (by rw [cm_full, ← hL]; omega)
        have hb := (hS i i1).mpr (by rw [t1]; rfl)
        by_cases h0 : S = 0
        · rw [h0, Nat.zero_div] at hb; omega
        · omega
    rw [hm.1]
    exact fin g F hm.2
  have hs : s < 2 ^ n0 := by omega
  -- one set
  obtain ⟨J, hJ⟩ : ∃ J : Nat → Int → Int → Int → Int → AH → Prop, ∀ m a1 a2 a3 a4 g', J m a1 a2 a3 a4 g' ↔ ∃ i : Nat, i ≤ n0 ∧ m = n0 - i ∧ a4 = (i : Int) ∧ Fr g g' (x4 + 1) (x4 + 2) ∧ ((a3 = 1 ∧ ∃ z, gw e n1 (bpS s) i = some z ∧ a1 = (z.1 : Int) ∧ a2 = (z.2.1 : Int) ∧ ∀ k : Nat, k < z.1 → haI g' (x4 + 1) (k : Int) = z.2.2 k) ∨ a3 = 0 ∧ (0 ≤ a1 ∧ a1 ≤ 8) ∧ gw e n1 (bpS s) i = none) := ⟨_, fun _ _ _ _ _ _ => Iff.rfl⟩
  refine ⟨J, ⟨_, by omega, (hJ _ _ _ _ _ _).mpr ⟨0, Nat.zero_le _, rfl, rfl, Fr.refl _ _ _, .inl ⟨rfl, _, rfl, rfl, rfl, fun k hk => absurd hk (Nat.not_lt_zero _)⟩⟩⟩, ?_⟩
  intro m a1 a2 a3 a4 g2 hj9
  obtain ⟨i, hi, rfl, rfl, F2, hz⟩ := (hJ _ _ _ _ _ _).mp hj9
  have K2 : LK g2 b c0 c1 st := Kg.fr F2 (by omega)
  have F02 : Fr g0 g2 x4 (x4 + 2) := F.trans (F2.wide (by omega) (Nat.le_refl _))
  have k2u : hkd g2 x4 = (1, 8) := by rw [F02.kd]; exact ku
  have k2v : hkd g2 (x4 + 1) = (1, 8) := by rw [F02.kd]; exact ku1
  have lo2 : hlo g2 ≤ b := K2.2.2.2.1
  have bu : ∀ k : Int, haI g2 x4 k = haI g x4 k := fun k => by rw [F2.ai (by omega)]
  rw [okI_of K2.2.1.1, K2.2.1.2.1, ← hn0]
  refine ⟨⟨by omega, by omega⟩, ?_⟩
  refine jn_in (fun K151 hK151 => ?_)
  have done : (n0 ≤ i ∨ a3 = 0) → K151 g2 := by
    intro hend
    rw [hK151]
    simp only
    refine jn_in (fun K287 hK287 => ?_)
    have next : ∀ (v : Nat) (g3 : AH), Fr g0 g3 x4 (x4 + 2) → CSs L S (s + 1) v O (fun k => haI g3 x4 (k : Int)) → K287 (v : Int) g3 := by
      intro v g3 F3 C3
      rw [hK287]
      exact ⟨by unfold inR; omega, fun w hw => ⟨_, by omega, (hI _ _ _ _).mpr ⟨s + 1, v, by omega, by omega, rfl, rfl, by omega, F3, C3⟩⟩⟩
    have same : CSs L S (s + 1) most O (fun k => haI g x4 (k : Int)) → K287 (most : Int) g2 := fun C2 => next most g2 F02 ⟨C2.1, fun hh => (C2.2.1 hh).ext (fun k hk => (bu k).symm), fun h1 h2 => ⟨(C2.2.2 h1 h2).1, fun k hk => by show haI g2 x4 (k : Int) = O k; rw [bu]; exact (C2.2.2 h1 h2).2 k hk⟩⟩
    rw [hL, hO] at C same next
    rcases hz with ⟨h3, z, z1, z2, z3, z4⟩ | ⟨h3, -, h4⟩
    · have hin : i = n0 := by omega
      subst hin
      have zl := gw_le (n0 := i) i z (Nat.le_refl _) z1
      rw [h3, z2]
      refine ⟨fun h => absurd h (by omega), fun _ => ⟨fun hle => ?_, fun hgt => same (cs_less hS C z1 (by omega))⟩⟩
      refine jn_in (fun K178 hK178 => ?_)
      have cmp : ∀ t : Int, (t = 1 ∧ most < z.1 ∨ t = 0 ∧ z.1 = most) → K178 t g2 := by
        intro t ht
        rw [hK178]
        simp only
        obtain ⟨I3, hI3⟩ : ∃ I : Nat → Int → Int → Int → AH → Prop, ∀ m x y w g', I m x y w g' ↔ ∃ k : Nat, k ≤ z.1 ∧ m = z.1 - k ∧ w = (k : Int) ∧ g' = g2 ∧ ((x = 1 ∧ (most < z.1 ∨ z.1 = most ∧ ∃ j, j < most ∧ (∀ a, a < j → z.2.2 a = haI g x4 (a : Int)) ∧ z.2.2 j < haI g x4 (j : Int))) ∨ (x = 0 ∧ z.1 = most ∧ (y = 1 ∧ (∀ a, a < k → z.2.2 a = haI g x4 (a : Int)) ∨ y = 0 ∧ ∃ j, j < most ∧ (∀ a, a < j → z.2.2 a = haI g x4 (a : Int)) ∧ haI g x4 (j : Int) < z.2.2 j))) := ⟨_, fun _ _ _ _ _ => Iff.rfl⟩
        refine ⟨I3, ⟨_, by omega, (hI3 _ _ _ _ _).mpr ⟨0, Nat.zero_le _, rfl, rfl, rfl, ?_⟩⟩, ?_⟩
        · rcases ht with ⟨h1, h2⟩ | ⟨h1, h2⟩
          · exact .inl ⟨h1, .inl h2⟩
          · exact .inr ⟨h1, h2, .inl ⟨rfl, fun a ha => absurd ha (Nat.not_lt_zero _)⟩⟩
        intro m3 x3 y3 w3 g3 hi3
        obtain ⟨k, hk, rfl, rfl, eg, hst⟩ := (hI3 _ _ _ _ _).mp hi3
        subst eg
        refine jn_in (fun K249 hK249 => ?_)
        have out : (z.1 ≤ k ∨ x3 ≠ 0 ∨ y3 = 0) → K249 g3 := by
          intro hout
          rw [hK249]
          refine ⟨fun hx => ?_, fun hx => ?_⟩
          · have hb : most < z.1 ∨ z.1 = most ∧ ∃ j, j < most ∧ (∀ a, a < j → z.2.2 a = haI g x4 (a : Int)) ∧ z.2.2 j < haI g x4 (j : Int) := by
              rcases hst with h | h
              · exact h.2
              · exact absurd h.1 hx
            obtain ⟨I4, hI4⟩ : ∃ I : Nat → Int → AH → Prop, ∀ m x g', I m x g' ↔ ∃ k : Nat, k ≤ z.1 ∧ m = z.1 - k ∧ x = (k : Int) ∧ Fr g3 g' x4 (x4 + 1) ∧ ∀ a, a < k → haI g' x4 (a : Int) = z.2.2 a := ⟨_, fun _ _ _ => Iff.rfl⟩
            refine ⟨I4, ⟨_, by omega, (hI4 _ _ _).mpr ⟨0, Nat.zero_le _, rfl, rfl, Fr.refl _ _ _, fun a ha => absurd ha (Nat.not_lt_zero _)⟩⟩, ?_⟩
            intro m4 x4' g4 hi4
            obtain ⟨k4, hk4, rfl, rfl, F4, A4⟩ := (hI4 _ _ _).mp hi4
            refine ⟨fun hc4 => ?_, fun hc4 => ?_⟩
            · have : k4 = z.1 := by omega
              subst this
              exact next z.1 g4 (F02.trans (F4.wide (Nat.le_refl _) (by omega))) (cs_repl (by omega) hS C z1 hb (fun a ha => A4 a ha))
            · have hlt : k4 < z.1 := by omega
              rw [okI_of (show hkd g4 (x4 + 1) = (1, 8) by rw [F4.kd]; exact k2v), okW_of (show hkd g4 x4 = (1, 8) by rw [F4.kd]; exact k2u), F4.ai (show x4 + 1 < x4 ∨ x4 + 1 ≤ x4 + 1 by omega), z4 k4 hlt]
              refine ⟨⟨by omega, by omega⟩, ⟨by omega, by omega, by rw [F4.lo]; omega⟩, fun g5 e5 => ⟨by unfold inR; omega, fun w hw => ⟨_, by omega, (hI4 _ _ _).mpr ⟨k4 + 1, by omega, rfl, by omega, ?_, fun a ha => ?_⟩⟩⟩⟩
              · rw [e5]; exact F4.tsa (by omega) (by omega)
              · rw [e5, haI_saI, if_pos rfl, u1_apply]
                by_cases ea : a = k4
                · subst ea; rw [if_pos rfl]
                · rw [if_neg (by omega)]; exact A4 a (by omega)
          · rcases hst with h | ⟨-, h2, h3⟩
            · omega
            · refine same (cs_keep hS C z1 h2 ?_)
              rcases h3 with ⟨h4, h5⟩ | ⟨h4, h5⟩
              · refine .inl (fun a ha => h5 a (by omega))
              · exact .inr h5
        refine ⟨fun hc => out (.inl (by omega)), fun hc => ⟨fun hx => out (.inr (.inl hx)), fun hx => ⟨fun hy => out (.inr (.inr hy)), fun hy => ?_⟩⟩⟩
        have hkz : k < z.1 := by omega
        obtain ⟨h2, h5⟩ : z.1 = most ∧ ∀ a, a < k → z.2.2 a = haI g x4 (a : Int) := by
          rcases hst with h | ⟨-, h2, h3⟩
          · omega
          · rcases h3 with ⟨-, h5⟩ | ⟨h4, -⟩
            · exact ⟨h2, h5⟩
            · exact absurd h4 hy
        have lz : k < 8 := by omega
        rw [okI_of k2v, okI_of k2u, z4 k hkz, bu]
        refine ⟨⟨by omega, by omega⟩, ⟨by omega, by omega⟩, ?_⟩
        have step : ∀ b1 b2 : Int, (b1 = 1 ∧ z.2.2 k < haI g x4 (k : Int) ∨ b1 = 0 ∧ ¬ z.2.2 k < haI g x4 (k : Int)) → (b2 = 1 ∧ z.2.2 k = haI g x4 (k : Int) ∨ b2 = 0 ∧ ¬ z.2.2 k = haI g x4 (k : Int)) → inR ((k : Int) + 1) ∧ ∀ w : Int, w = (k : Int) + 1 → ∃ m, m < z.1 - k ∧ I3 m b1 b2 w g3 := by
          intro b1 b2 hb1 hb2
          refine ⟨by unfold inR; omega, fun w hw => ⟨_, by omega, (hI3 _ _ _ _ _).mpr ⟨k + 1, by omega, rfl, by omega, rfl, ?_⟩⟩⟩
          rcases hb1 with ⟨c1, c2⟩ | ⟨c1, c2⟩
          · exact .inl ⟨c1, .inr ⟨h2, k, by omega, h5, c2⟩⟩
          · refine .inr ⟨c1, h2, ?_⟩
            rcases hb2 with ⟨d1, d2⟩ | ⟨d1, d2⟩
            · refine .inl ⟨d1, fun a ha => ?_⟩
              by_cases ea : a = k
              · rw [ea]; exact d2
              · exact h5 a (by omega)
            · exact .inr ⟨d1, k, by omega, h5, by omega⟩
        refine jn_in (fun K221 hK221 => ?_)
        have k221 : ∀ b1 : Int, (b1 = 1 ∧ z.2.2 k < haI g x4 (k : Int) ∨ b1 = 0 ∧ ¬ z.2.2 k < haI g x4 (k : Int)) → K221 b1 g3 := by
          intro b1 hb1
          rw [hK221]
          simp only [jn_def]
          rw [okI_of k2v, okI_of k2u, z4 k hkz, bu]
          exact ⟨⟨by omega, by omega⟩, ⟨by omega, by omega⟩, fun hne => step b1 0 hb1 (.inr ⟨rfl, hne⟩), fun heq => step b1 1 hb1 (.inl ⟨rfl, heq⟩)⟩
        exact ⟨fun hle => k221 0 (.inr ⟨rfl, by omega⟩), fun hgt => k221 1 (.inl ⟨rfl, by omega⟩)⟩
      exact ⟨fun hle2 => cmp 0 (.inr ⟨rfl, by omega⟩), fun hgt => cmp 1 (.inl ⟨rfl, by omega⟩)⟩
    · have hstop : gw e n1 (bpS s) n0 = none := by
        have := gw_stop h4 (n0 - i)
        rw [show i + (n0 - i) = n0 by omega] at this
        exact this
      exact ⟨fun _ => same (cs_skip hS C hstop), fun h => absurd h3 h⟩
  refine ⟨fun hc2 => done (.inl (by omega)), fun hc2 => ⟨fun hc3 => done (.inr hc3), fun hc3 => ?_⟩⟩
  have hi0 : i < n0 := by omega
  obtain ⟨z, z1, rfl, rfl, z4⟩ : ∃ z, gw e n1 (bpS s) i = some z ∧ a1 = (z.1 : Int) ∧ a2 = (z.2.1 : Int) ∧ ∀ k : Nat, k < z.1 → haI g2 (x4 + 1) (k : Int) = z.2.2 k := by
    rcases hz with h | h
    · exact h.2
    · exact absurd h.1 hc3
  have ha3 : a3 = 1 := by
    rcases hz with h | h
    · exact h.1
    · exact absurd h.1 hc3
  have zl := gw_le (n0 := n0) i z (by omega) z1
  have hbit : ((s : Int) / (2 : Int) ^ ((i : Int)).toNat % 2) = ((s / 2 ^ i % 2 : Nat) : Int) := by
    rw [toN, ← pow2_toNat]; rfl
  rw [hbit]
  refine ⟨⟨by omega, by omega⟩, ?_⟩
  refine jn_in (fun K145 hK145 => ?_)
  have gws : ∀ y, gs1 e n1 i (bpS s i) z = y → gw e n1 (bpS s) (i + 1) = y := by
    intro y hy
    show (gw e n1 (bpS s) i).bind (gs1 e n1 i (bpS s i)) = y
    rw [z1]; exact hy
  have step : ∀ (b1 b2 b3 : Int) (g3 : AH), Fr g g3 (x4 + 1) (x4 + 2) → ((b3 = 1 ∧ ∃ z, gw e n1 (bpS s) (i + 1) = some z ∧ b1 = (z.1 : Int) ∧ b2 = (z.2.1 : Int) ∧ ∀ k : Nat, k < z.1 → haI g3 (x4 + 1) (k : Int) = z.2.2 k) ∨ b3 = 0 ∧ (0 ≤ b1 ∧ b1 ≤ 8) ∧ gw e n1 (bpS s) (i + 1) = none) → K145 b1 b2 b3 g3 := by
    intro b1 b2 b3 g3 F3 hh
    rw [hK145]
    exact ⟨by unfold inR; omega, fun w hw => ⟨_, by omega, (hJ _ _ _ _ _ _).mpr ⟨i + 1, by omega, rfl, by omega, F3, hh⟩⟩⟩
  refine ⟨fun hbt => ?_, fun hbt => ?_⟩
  · have hp1 : bpS s i = true := decide_eq_true (by omega)
    obtain ⟨I5, hI5⟩ : ∃ I : Nat → Int → AH → Prop, ∀ m x g', I m x g' ↔ ∃ j : Nat, z.2.1 ≤ j ∧ j ≤ n1 ∧ m = n1 - j ∧ x = (j : Int) ∧ g' = g2 ∧ ∀ y, z.2.1 ≤ y → y < j → e i y = false := ⟨_, fun _ _ _ => Iff.rfl⟩
    refine ⟨I5, ⟨_, by omega, (hI5 _ _ _).mpr ⟨z.2.1, Nat.le_refl _, zl.2.1, rfl, rfl, rfl, fun y h1 h2 => by omega⟩⟩, ?_⟩
    intro m5 x5' g5 hi5
    obtain ⟨j, j1, j2, rfl, rfl, eg, jno⟩ := (hI5 _ _ _).mp hi5
    subst eg
    rw [okI_of K2.2.1.1, K2.2.1.2.2, ← hn1]
    refine ⟨⟨by omega, by omega⟩, ?_⟩
    refine jn_in (fun K99 hK99 => ?_)
    have out : (j = n1 ∨ j < n1 ∧ e i j = true) → K99 g5 := by
      intro hout
      rw [hK99]
      simp only [jn_def]
      rw [okI_of K2.2.1.1, K2.2.1.2.2, ← hn1]
      have wr : ∀ g6 : AH, g6 = saI g5 (x4 + 1) (u1 (haI g5 (x4 + 1)) (z.1 : Int) ((100 : Int) * (i : Int) + (j : Int))) → Fr g g6 (x4 + 1) (x4 + 2) := fun g6 e6 => by rw [e6]; exact F2.tsa (by omega) (by omega)
      refine ⟨⟨by omega, by omega⟩, fun hc5 => ?_, fun hc5 => ?_⟩
      · have hnone : gw e n1 (bpS s) (i + 1) = none := gws _ (by
          unfold gs1
          rw [if_pos hp1, fnd_none.mpr (fun y h1 h2 => jno y h1 (by omega))])
        rw [okW_of k2v]
        refine ⟨by unfold inR; omega, by unfold inR; omega, ⟨by omega, by omega, by omega⟩, fun g6 e6 => ⟨fun _ => ⟨by unfold inR; omega, fun v hv => ⟨by unfold inR; omega, fun w hw => step _ _ _ _ (wr g6 e6) (.inr ⟨rfl, by omega, hnone⟩)⟩⟩, fun h => absurd trivial h⟩⟩
      · have hj : j < n1 ∧ e i j = true := by
          rcases hout with h | h
          · omega
          · exact h
        have hsome : gw e n1 (bpS s) (i + 1) = some (z.1 + 1, j + 1, un z.2.2 z.1 (100 * (i : Int) + (j : Int))) := gws _ (by
          unfold gs1
          rw [if_pos hp1, fnd_is j1 (by omega) hj.2 jno])
        rw [okW_of k2v]
        refine ⟨by unfold inR; omega, by unfold inR; omega, ⟨by omega, by omega, by omega⟩, fun g6 e6 => ⟨fun h => absurd h (by omega), fun _ => ⟨by unfold inR; omega, fun v hv => ⟨by unfold inR; omega, fun w hw => step _ _ _ _ (wr g6 e6) (.inl ⟨rfl, _, hsome, by rw [hv]; rfl, by rw [hw]; rfl, fun k hk => ?_⟩)⟩⟩⟩⟩
        have hk : k < z.1 + 1 := hk
        rw [e6, haI_saI, if_pos rfl, u1_apply]
        show _ = un z.2.2 z.1 _ k
        by_cases ek : k = z.1
        · rw [ek, un_s, if_pos rfl]
        · rw [un_n ek, if_neg (by omega)]; exact z4 k (by omega)
    have eqj : j < n1 → (e i j = true ↔ Ac c0 i = Ac c1 j) := fun _ => by
      rw [he]; unfold eqB; exact decide_eq_true_iff
    refine ⟨fun hc5 => out (.inl (by omega)), fun hc5 => ?_⟩
    have hjn : j < n1 := by omega
    rw [okI_of K2.1.2.1, okI_of K2.1.1.1, (K2.1.2.2 j (by omega)).2, (K2.1.1.2 i (by omega)).2]
    refine ⟨by unfold inR; omega, by unfold inR; omega, ⟨by omega, by omega⟩, by unfold inR; omega, by unfold inR; omega, ⟨by omega, by omega⟩, fun heq => out (.inr ⟨hjn, (eqj hjn).mpr heq.symm⟩), fun hne => ⟨by unfold inR; omega, fun w hw => ⟨_, by omega, (hI5 _ _ _).mpr ⟨j + 1, by omega, by omega, rfl, by omega, rfl, fun y h1 h2 => ?_⟩⟩⟩⟩
    by_cases ey : y = j
    · cases hv : e i y with
      | false => rfl
      | true => rw [ey] at hv; exact absurd ((eqj hjn).mp hv).symm hne
    · exact jno y h1 (by omega)
  · have hp0 : bpS s i = false := decide_eq_false (by omega)
    exact step _ _ _ _ F2 (.inl ⟨ha3, z, gws _ (by unfold gs1; rw [hp0]; rfl), rfl, rfl, z4⟩)
