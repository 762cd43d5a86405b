/-! THE PURE LAYER, 12: the class's Morph telling, on -/
theorem toN {j : Nat} : ((j : Int)).toNat = j := rfl
theorem m_steps {zz : Nat → Nat} {s t0 t1 F k : Nat} {h : AH} {Q : Int → AH → Prop} {c0 c1 st : Nat → Int} (A : WA h s t0 t1 c0 c1 st F) (hk : k < Nc c0) (q : Q (stpA c0 c1 st k) h) : w_X1_steps zz (s + 8) k h Q := by
  obtain ⟨S, P, M, X, W, hg, hc0, hc1⟩ := A
  have h40 : Nc c0 ≤ 40 := hc0.2
  have h41 : Nc c1 ≤ 40 := hc1.2
  obtain ⟨⟨a0, a1, a2, a3, a4, a5, a6⟩, ⟨⟨b0, b1, b2, b3, b4, b5⟩, b6, b7, b8⟩, ⟨⟨d0, d1, d2, d3, d4, d5⟩, d6, d7, d8⟩, a9⟩ := S
  obtain ⟨p0, p1, p2, p3, p4, p5, p6, q0, q1, q2, q3, q4, q5, q6⟩ := P
  obtain ⟨k0, k1, k2, k3, k4, k5, g0, g1, g2, g3, g4, g5, g6, g7⟩ := X
  have e := (W.1 k (by omega)).1
  have x1 : (0 : Int) ≤ (k : Int) := by omega
  have x2 : (k : Int) < ((40 : Nat) : Int) := by omega
  unfold stpA at q
  unfold w_X1_steps
  simp only [okA, okI, pair_ex, some_ex, forall_eq, p0, p1, p2, p3, p4, p5, p6, q0, q1, q2, q3, q4, q5, q6, k0, k1, k2, k3, k4, k5, g0, g1, g2, g3, g4, g5, g6, g7, Nat.add_left_cancel_iff, Nat.reduceEqDiff, Nat.add_eq_left, Nat.left_eq_add, if_true, if_false, Nat.reduceAdd, true_and, and_true, Nat.one_ne_zero, Nat.succ_ne_self, e, x1, x2]
  rcases pf_cases (c0 := c0) (c1 := c1) (st := st) hk with h | ⟨j, j1, j2, -⟩
  · rw [if_pos h.1] at q
    exact ⟨fun hn => absurd h.1 hn, fun _ => q⟩
  · have j2' : (prA c0 c1 st).1 k = (j : Int) := j2
    rw [if_neg (by omega), j2, toN] at q
    refine ⟨fun _ => ?_, fun hn => absurd hn (by omega)⟩
    have e0 := b8 k hk
    have e1 := d8 j j1
    have l0 := Lc_lt hk
    have l1 := Lc_lt j1
    have v1 := ab1_bd (x := (Lc c0 k : Int) % 16 - (Lc c1 j : Int) % 16) (n := 15) (by omega) (by omega)
    have v2 := ab1_bd (x := (Lc c0 k : Int) / 16 - (Lc c1 j : Int) / 16) (n := 4) (by omega) (by omega)
    simp only [txt0, txt1, w_X5_columnOf, w_X5_rowOf, okA, okI, pair_ex, some_ex, a0, a1, a2, a3, a4, b0, b1, b2, b3, b4, b7, d0, d1, d2, d3, d4, d7, k0, k1, k2, k3, k4, k5, g0, g1, g2, g3, g4, g5, g6, g7, Nat.add_left_cancel_iff, Nat.reduceEqDiff, Nat.add_eq_left, Nat.left_eq_add, if_true, if_false, Nat.reduceAdd, true_and, and_true, Nat.one_ne_zero, Nat.succ_ne_self, j2', e0, e1, ab1_fold, inR, and_assoc]
    repeat' apply And.intro
    all_goals first | exact q | omega
theorem stp_bd {c0 c1 st : Nat → Int} {k : Nat} (hk : k < Nc c0) : 0 ≤ stpA c0 c1 st k ∧ stpA c0 c1 st k ≤ 19 := by
  unfold stpA
  rcases pf_cases (c0 := c0) (c1 := c1) (st := st) hk with h | ⟨j, j1, j2, -⟩
  · rw [if_pos h.1]; omega
  · rw [if_neg (by omega), j2, toN]
    have l0 := Lc_lt hk
    have l1 := Lc_lt j1
    have v1 := ab1_bd (x := (Lc c0 k : Int) % 16 - (Lc c1 j : Int) % 16) (n := 15) (by omega) (by omega)
    have v2 := ab1_bd (x := (Lc c0 k : Int) / 16 - (Lc c1 j : Int) / 16) (n := 4) (by omega) (by omega)
    omega
theorem dis_bd {c0 c1 st : Nat → Int} (hg : GS st) {k : Nat} (hk : k < Nc c0) : 0 ≤ disA c0 c1 st k ∧ disA c0 c1 st k ≤ 51 := by
  unfold disA
  have g0 := hg.1
  rcases pf_cases (c0 := c0) (c1 := c1) (st := st) hk with h | ⟨j, j1, j2, -⟩
  · rw [if_pos h.1]; omega
  · rw [if_neg (by omega), j2, toN]
    exact dsc_bd (by omega) (Lc_lt hk) (Lc_lt j1)
theorem m_pdist {zz : Nat → Nat} {s t0 t1 F i j : Nat} {h : AH} {Q : Int → AH → Prop} {c0 c1 st : Nat → Int} (A : WA h s t0 t1 c0 c1 st F) (hi : i < Nc c0) (hj : j < Nc c1) (q : Q (dsL c0 c1 st i j) h) : w_X3_distance zz (s + 14) i j h Q := by
  obtain ⟨S, P, M, X, W, hg, hc0, hc1⟩ := A
  exact m_dist S P hg hi hj hc0.2 hc1.2 q
theorem m_stepsAll {zz : Nat → Nat} {s t0 t1 F : Nat} {h : AH} {Q : Int → AH → Prop} {c0 c1 st : Nat → Int} (A : WA h s t0 t1 c0 c1 st F) (q : Q (sN (stpA c0 c1 st) (Nc c0)) h) : w_X1_stepsOfAll zz (s + 8) h Q := by
  have A0 := A
  obtain ⟨S, P, M, X, W, hg, hc0, hc1⟩ := A
  have h40 : Nc c0 ≤ 40 := hc0.2
  obtain ⟨⟨a0, a1, a2, a3, a4, a5, a6⟩, ⟨⟨b0, b1, b2, b3, b4, b5⟩, b6, b7, b8⟩, ⟨⟨d0, d1, d2, d3, d4, d5⟩, d6, d7, d8⟩, a9⟩ := S
  obtain ⟨k0, k1, k2, k3, k4, k5, g0, g1, g2, g3, g4, g5, g6, g7⟩ := X
  unfold w_X1_stepsOfAll
  obtain ⟨I, hI⟩ : ∃ I : Nat → Int → Int → AH → Prop, ∀ m x1 x2 h', I m x1 x2 h' ↔ ∃ k : Nat, k ≤ Nc c0 ∧ m = Nc c0 - k ∧ x2 = (k : Int) ∧ x1 = sN (stpA c0 c1 st) k ∧ h' = h := ⟨_, fun _ _ _ _ => Iff.rfl⟩
  refine ⟨I, ⟨_, (hI _ _ _ _).mpr ⟨0, by omega, rfl, rfl, rfl, rfl⟩⟩, ?_⟩
  intro m x1 x2 h' hi9
  obtain ⟨k, hk, rfl, rfl, rfl, rfl⟩ := (hI _ _ _ _).mp hi9
  simp only [txt0, okA, pair_ex, some_ex, forall_eq, a0, a1, a2, a3, a4, b0, b1, b2, b3, b4, b7, d0, d1, d2, d3, d4, d7, k0, k1, k2, k3, k4, k5, g0, g1, g2, g3, g4, g5, g6, g7, Nat.add_left_cancel_iff, Nat.reduceEqDiff, Nat.add_eq_left, Nat.left_eq_add, if_true, if_false, Nat.reduceAdd, true_and, and_true, Nat.one_ne_zero, Nat.succ_ne_self]
  refine ⟨fun hc => ?_, fun hc => ?_⟩
  · obtain rfl : k = Nc c0 := by omega
    exact q
  · have hk9 : k < Nc c0 := by omega
    refine m_steps A0 hk9 ?_
    have b1 := sN_bd (f := stpA c0 c1 st) (n := k) (b := 19) (fun i hi => stp_bd (by omega))
    have b2 := stp_bd (c0 := c0) (c1 := c1) (st := st) hk9
    exact ⟨by unfold inR; omega, by unfold inR; omega, Nc c0 - (k + 1), by omega, (hI _ _ _ _).mpr ⟨k + 1, by omega, rfl, by omega, rfl, rfl⟩⟩
theorem m_distAll {zz : Nat → Nat} {s t0 t1 F : Nat} {h : AH} {Q : Int → AH → Prop} {c0 c1 st : Nat → Int} (A : WA h s t0 t1 c0 c1 st F) (q : Q (sN (disA c0 c1 st) (Nc c0)) h) : w_X1_distancesOfAll zz (s + 8) h Q := by
  have A0 := A
  obtain ⟨S, P, M, X, W, hg, hc0, hc1⟩ := A
  have h40 : Nc c0 ≤ 40 := hc0.2
  obtain ⟨⟨a0, a1, a2, a3, a4, a5, a6⟩, ⟨⟨b0, b1, b2, b3, b4, b5⟩, b6, b7, b8⟩, ⟨⟨d0, d1, d2, d3, d4, d5⟩, d6, d7, d8⟩, a9⟩ := S
  obtain ⟨k0, k1, k2, k3, k4, k5, g0, g1, g2, g3, g4, g5, g6, g7⟩ := X
  obtain ⟨p0, p1, p2, p3, p4, p5, p6, q0, q1, q2, q3, q4, q5, q6⟩ := P
  unfold w_X1_distancesOfAll
  obtain ⟨I, hI⟩ : ∃ I : Nat → Int → Int → AH → Prop, ∀ m x1 x2 h', I m x1 x2 h' ↔ ∃ k : Nat, k ≤ Nc c0 ∧ m = Nc c0 - k ∧ x2 = (k : Int) ∧ x1 = sN (disA c0 c1 st) k ∧ h' = h := ⟨_, fun _ _ _ _ => Iff.rfl⟩
  refine ⟨I, ⟨_, (hI _ _ _ _).mpr ⟨0, by omega, rfl, rfl, rfl, rfl⟩⟩, ?_⟩
  intro m x1 x2 h' hi9
  obtain ⟨k, hk, rfl, rfl, rfl, rfl⟩ := (hI _ _ _ _).mp hi9
  simp only [txt0, okA, okI, jn_def, pair_ex, some_ex, forall_eq, a0, a1, a2, a3, a4, b0, b1, b2, b3, b4, b7, d0, d1, d2, d3, d4, d7, k0, k1, k2, k3, k4, k5, g0, g1, g2, g3, g4, g5, g6, g7, p0, p1, p2, p3, p4, p5, p6, q0, q1, q2, q3, q4, q5, q6, Nat.add_left_cancel_iff, Nat.reduceEqDiff, Nat.add_eq_left, Nat.left_eq_add, if_true, if_false, Nat.reduceAdd, true_and, and_true, Nat.one_ne_zero, Nat.succ_ne_self]
  refine ⟨fun hc => ?_, fun hc => ?_⟩
  · obtain rfl : k = Nc c0 := by omega
    exact q
  · have hk9 : k < Nc c0 := by omega
    refine m_vanishes A0 hk9 ?_
    have b1 := sN_bd (f := disA c0 c1 st) (n := k) (b := 51) (fun i hi => dis_bd hg (by omega))
    have b2 := dis_bd (c0 := c0) (c1 := c1) hg hk9
    have e := (W.1 k (by omega)).1
    have fin : ∀ v, v = disA c0 c1 st k → inR (sN (disA c0 c1 st) k + v) ∧ inR ((k : Int) + 1) ∧ ∃ m, m < Nc c0 - k ∧ I m (sN (disA c0 c1 st) k + v) ((k : Int) + 1) h' := fun v hv => ⟨by unfold inR; omega, by unfold inR; omega, Nc c0 - (k + 1), by omega, (hI _ _ _ _).mpr ⟨k + 1, by omega, rfl, by omega, by rw [hv]; rfl, rfl⟩⟩
    rcases pf_cases (c0 := c0) (c1 := c1) (st := st) hk9 with h | ⟨j, j1, j2, j3, j4, j5, j6⟩
    · rw [if_pos h.2]
      refine ⟨fun h => absurd h (by omega), fun _ => fin 0 ?_⟩
      unfold disA; rw [if_pos h.1]
    · rw [if_neg (by omega)]
      refine ⟨fun _ => ?_, fun h => absurd rfl h⟩
      have j2' : (prA c0 c1 st).1 k = (j : Int) := j2
      simp only [k0, k1, k2, k3, k4, k5, g0, g1, g2, g3, g4, g5, g6, g7, p0, p1, p2, p3, p4, p5, p6, q0, q1, q2, q3, q4, q5, q6, Nat.add_left_cancel_iff, Nat.reduceEqDiff, Nat.add_eq_left, Nat.left_eq_add, if_true, if_false, Nat.reduceAdd, true_and, and_true, Nat.one_ne_zero, Nat.succ_ne_self, pair_ex, some_ex, e, j2']
      refine ⟨⟨by omega, by omega⟩, m_pdist A0 hk9 j1 (fin _ ?_)⟩
      unfold disA; rw [if_neg (by omega), j2, toN]
theorem nFr_bd {c0 c1 st : Nat → Int} {F : Nat} (hg : GS st) (hc : Nc c0 ≤ 40) (hc1 : Nc c1 ≤ 40) (hF : F ≤ 190) : 1 ≤ nFr c0 c1 st F ∧ nFr c0 c1 st F ≤ 320 := by
  have := sti_bd (c0 := c0) (c1 := c1) hg hc
  have := cK_le (f := ksA c0 c1 st) (n := Nc c1) (v := 5)
  have := hg.2.2.2.2.2.2.2
  unfold nFr; omega
theorem m_frames {zz : Nat → Nat} {s t0 t1 F : Nat} {h : AH} {Q : Int → AH → Prop} {c0 c1 st : Nat → Int} (A : WA h s t0 t1 c0 c1 st F) (q : Q (nFr c0 c1 st F) h) : w_X1_frames zz (s + 8) h Q := by
  obtain ⟨S, P, M, X, W, hg, hc0, hc1⟩ := A
  have h40 : Nc c0 ≤ 40 := hc0.2
  have h41 : Nc c1 ≤ 40 := hc1.2
  have hF := W.2.2.2.2.2.2.2
  have b1 := sti_bd (c0 := c0) (c1 := c1) hg h40
  have b2 : cK (prA c0 c1 st).2.2.2 (Nc c1) 5 ≤ Nc c1 := cK_le
  have b3 := hg.2.2.2.2.2.2.2
  have e1 := W.2.2.2.1
  have e2 := W.2.2.1.1
  have e3 := W.2.1.2.2.2.2
  obtain ⟨⟨a0, a1, a2, a3, a4, a5, a6⟩, ⟨⟨b0, b1, b2, b3, b4, b5⟩, b6, b7, b8⟩, ⟨⟨d0, d1, d2, d3, d4, d5⟩, d6, d7, d8⟩, a9⟩ := S
  obtain ⟨k0, k1, k2, k3, k4, k5, g0, g1, g2, g3, g4, g5, g6, g7⟩ := X
  obtain ⟨p0, p1, p2, p3, p4, p5, p6, q0, q1, q2, q3, q4, q5, q6⟩ := P
  obtain ⟨v0, v1, v2, v3, v4, v5, v6, v7, v8, w0, w1, w2, w3, w4, w5, w6, w7, w8, w9⟩ := M
  have z7 : haI h (s + 1) (7 : Int) = st 7 := a9 7 (by omega)
  unfold w_X1_frames
  simp only [okA, okI, pair_ex, some_ex, a0, a1, a2, a3, a4, b0, b1, b2, b3, b4, b7, d0, d1, d2, d3, d4, d7, k0, k1, k2, k3, k4, k5, g0, g1, g2, g3, g4, g5, g6, g7, p0, p1, p2, p3, p4, p5, p6, q0, q1, q2, q3, q4, q5, q6, v0, v1, v2, v3, v4, v5, v6, v7, v8, w0, w1, w2, w3, w4, w5, w6, w7, w8, w9, Nat.add_left_cancel_iff, Nat.reduceEqDiff, Nat.add_eq_left, Nat.left_eq_add, if_true, if_false, Nat.reduceAdd, true_and, and_true, Nat.one_ne_zero, Nat.succ_ne_self, e1, e2, e3, z7, inR, and_assoc]
  repeat' apply And.intro
  all_goals first | exact q | omega
theorem m_number {zz : Nat → Nat} {s t0 t1 F : Nat} {v : Int} {h : AH} {Q : Int → AH → Prop} {c0 c1 st : Nat → Int} (A : WA h s t0 t1 c0 c1 st F) (hv : 0 ≤ v ∧ v ≤ 11) (q : Q (numA c0 c1 st F v) h) : w_X1_number zz (s + 8) v h Q := by
  have A0 := A
  obtain ⟨S, P, M, X, W, hg, hc0, hc1⟩ := A
  obtain ⟨o1, o2, o3, o4, o5⟩ := W.2.1
  have e2 := W.2.2.1.1
  have e4 := W.2.2.1.2.2.1.1
  obtain ⟨⟨a0, a1, a2, a3, a4, a5, a6⟩, ⟨⟨b0, b1, b2, b3, b4, b5⟩, b6, b7, b8⟩, ⟨⟨d0, d1, d2, d3, d4, d5⟩, d6, d7, d8⟩, a9⟩ := S
  obtain ⟨k0, k1, k2, k3, k4, k5, g0, g1, g2, g3, g4, g5, g6, g7⟩ := X
  obtain ⟨p0, p1, p2, p3, p4, p5, p6, q0, q1, q2, q3, q4, q5, q6⟩ := P
  obtain ⟨v0, v1, v2, v3, v4, v5, v6, v7, v8, w0, w1, w2, w3, w4, w5, w6, w7, w8, w9⟩ := M
  unfold numA at q
  unfold w_X1_number
  refine ⟨fun e => ?_, fun e => ?_, fun e => ?_, fun e => ?_, fun e => ?_, fun e => ?_, fun e => ?_, fun e => ?_, fun e => ?_, fun e => ?_, fun e => ?_, fun e => ?_⟩
  · subst e; exact ⟨by rw [okA_of k0], m_frames A0 q⟩
  · subst e
    simp only [txt0, okA, pair_ex, some_ex, a0, a1, a2, a3, a4, b0, b1, b2, b3, b4, b7, d0, d1, d2, d3, d4, d7, k0, k1, k2, k3, k4, k5, g0, g1, g2, g3, g4, g5, g6, g7, Nat.add_left_cancel_iff, Nat.reduceEqDiff, Nat.add_eq_left, Nat.left_eq_add, if_true, if_false, Nat.reduceAdd, true_and, and_true, Nat.one_ne_zero, Nat.succ_ne_self]; exact q
  · subst e
    simp only [txt1, okA, pair_ex, some_ex, a0, a1, a2, a3, a4, b0, b1, b2, b3, b4, b7, d0, d1, d2, d3, d4, d7, k0, k1, k2, k3, k4, k5, g0, g1, g2, g3, g4, g5, g6, g7, Nat.add_left_cancel_iff, Nat.reduceEqDiff, Nat.add_eq_left, Nat.left_eq_add, if_true, if_false, Nat.reduceAdd, true_and, and_true, Nat.one_ne_zero, Nat.succ_ne_self]; exact q
  · subst e
    simp only [okA, okI, pair_ex, some_ex, p0, p1, p2, p3, p4, p5, p6, q0, q1, q2, q3, q4, q5, q6, k0, k1, k2, k3, k4, k5, g0, g1, g2, g3, g4, g5, g6, g7, Nat.add_left_cancel_iff, Nat.reduceEqDiff, Nat.add_eq_left, Nat.left_eq_add, if_true, if_false, Nat.reduceAdd, true_and, and_true, Nat.one_ne_zero, Nat.succ_ne_self, o1]; exact ⟨⟨by omega, by omega⟩, q⟩
  · subst e
    simp only [okA, okI, pair_ex, some_ex, p0, p1, p2, p3, p4, p5, p6, q0, q1, q2, q3, q4, q5, q6, k0, k1, k2, k3, k4, k5, g0, g1, g2, g3, g4, g5, g6, g7, Nat.add_left_cancel_iff, Nat.reduceEqDiff, Nat.add_eq_left, Nat.left_eq_add, if_true, if_false, Nat.reduceAdd, true_and, and_true, Nat.one_ne_zero, Nat.succ_ne_self, o2]; exact ⟨⟨by omega, by omega⟩, q⟩
  · subst e
    simp only [okA, okI, pair_ex, some_ex, p0, p1, p2, p3, p4, p5, p6, q0, q1, q2, q3, q4, q5, q6, k0, k1, k2, k3, k4, k5, g0, g1, g2, g3, g4, g5, g6, g7, Nat.add_left_cancel_iff, Nat.reduceEqDiff, Nat.add_eq_left, Nat.left_eq_add, if_true, if_false, Nat.reduceAdd, true_and, and_true, Nat.one_ne_zero, Nat.succ_ne_self, o3]; exact ⟨⟨by omega, by omega⟩, q⟩
  · subst e
    simp only [okA, okI, pair_ex, some_ex, p0, p1, p2, p3, p4, p5, p6, q0, q1, q2, q3, q4, q5, q6, k0, k1, k2, k3, k4, k5, g0, g1, g2, g3, g4, g5, g6, g7, Nat.add_left_cancel_iff, Nat.reduceEqDiff, Nat.add_eq_left, Nat.left_eq_add, if_true, if_false, Nat.reduceAdd, true_and, and_true, Nat.one_ne_zero, Nat.succ_ne_self, o4]; exact ⟨⟨by omega, by omega⟩, q⟩
  · subst e
    simp only [okA, okI, pair_ex, some_ex, p0, p1, p2, p3, p4, p5, p6, q0, q1, q2, q3, q4, q5, q6, k0, k1, k2, k3, k4, k5, g0, g1, g2, g3, g4, g5, g6, g7, Nat.add_left_cancel_iff, Nat.reduceEqDiff, Nat.add_eq_left, Nat.left_eq_add, if_true, if_false, Nat.reduceAdd, true_and, and_true, Nat.one_ne_zero, Nat.succ_ne_self, o5]; exact ⟨⟨by omega, by omega⟩, q⟩
  · subst e
    simp only [okA, pair_ex, some_ex, v0, v1, v2, v3, v4, v5, v6, v7, v8, w0, w1, w2, w3, w4, w5, w6, w7, w8, w9, k0, k1, k2, k3, k4, k5, g0, g1, g2, g3, g4, g5, g6, g7, Nat.add_left_cancel_iff, Nat.reduceEqDiff, Nat.add_eq_left, Nat.left_eq_add, if_true, if_false, Nat.reduceAdd, true_and, and_true, Nat.one_ne_zero, Nat.succ_ne_self, e2]; exact q
  · subst e; exact ⟨by rw [okA_of k0], m_distAll A0 q⟩
  · subst e; exact ⟨by rw [okA_of k0], m_stepsAll A0 q⟩
  · obtain rfl : v = 11 := by omega
    simp only [okA, pair_ex, some_ex, v0, v1, v2, v3, v4, v5, v6, v7, v8, w0, w1, w2, w3, w4, w5, w6, w7, w8, w9, k0, k1, k2, k3, k4, k5, g0, g1, g2, g3, g4, g5, g6, g7, Nat.add_left_cancel_iff, Nat.reduceEqDiff, Nat.add_eq_left, Nat.left_eq_add, if_true, if_false, Nat.reduceAdd, true_and, and_true, Nat.one_ne_zero, Nat.succ_ne_self, e4]; exact q
theorem m_pieceCode {zz : Nat → Nat} {s t0 t1 F k : Nat} {f : Int} {h : AH} {Q : Int → AH → Prop} {c0 c1 st : Nat → Int} (A : WA h s t0 t1 c0 c1 st F) (hk : k < Nc c0) (hf : -10 ≤ f ∧ f ≤ 1000) (q : Q (pcA c0 c1 st F k f) h) : w_X1_pieceCode zz (s + 8) k f h Q := by
  have A0 := A
  obtain ⟨S, P, M, X, W, hg, hc0, hc1⟩ := A
  have h40 : Nc c0 ≤ 40 := hc0.2
  have h41 : Nc c1 ≤ 40 := hc1.2
  have hF := W.2.2.2.2.2.2.2
  obtain ⟨⟨a0, a1, a2, a3, a4, a5, a6⟩, ⟨⟨b0, b1, b2, b3, b4, b5⟩, b6, b7, b8⟩, ⟨⟨d0, d1, d2, d3, d4, d5⟩, d6, d7, d8⟩, a9⟩ := S
  obtain ⟨k0, k1, k2, k3, k4, k5, g0, g1, g2, g3, g4, g5, g6, g7⟩ := X
  obtain ⟨p0, p1, p2, p3, p4, p5, p6, q0, q1, q2, q3, q4, q5, q6⟩ := P
  obtain ⟨v0, v1, v2, v3, v4, v5, v6, v7, v8, w0, w1, w2, w3, w4, w5, w6, w7, w8, w9⟩ := M
  unfold w_X1_pieceCode
  refine ⟨by rw [okA_of k0], m_movedBy A0 hf ?_⟩
  have e := (W.1 k (by omega)).2.2.1
  have e5 := (W.1 k (by omega)).1
  have hm := mvd_le (c0 := c0) (c1 := c1) (st := st) (F := F) (f := f)
  have e3 := W.2.2.1.2.2.2 (mvd c0 c1 st F f) k hm hk
  have e4 := (W.2.2.1.2.1.1 k hk).1
  have l0 := Lc_lt hk
  have f0 := b6 _ l0
  have f8 := b8 k hk
  have x1 : (0 : Int) ≤ (k : Int) := by omega
  have x2 : (k : Int) < ((40 : Nat) : Int) := by omega
  have x3 : (0 : Int) ≤ (Lc c0 k : Int) := by omega
  have x4 : (Lc c0 k : Int) < ((80 : Nat) : Int) := by omega
  have own : ¬ (kfA c0 c1 st k = 3 ∧ 0 < mvd c0 c1 st F f ∧ (mfA c0 c1 st (mvd c0 c1 st F f)).1 k = glM c0 c1 st k) → Q (Ac c0 k) h := fun hn => by
    unfold pcA at q; rw [if_neg hn] at q; exact q
  have y1 : inR ((mvd c0 c1 st F f : Int) * 40) := by unfold inR; omega
  have y2 : inR ((mvd c0 c1 st F f : Int) * 40 + (k : Int)) := by unfold inR; omega
  have y3 : (0 : Int) ≤ (mvd c0 c1 st F f : Int) * 40 + (k : Int) := by omega
  have y4 : (mvd c0 c1 st F f : Int) * 40 + (k : Int) < ((7640 : Nat) : Int) := by omega
  simp only [txt0, txt1, w_X5_codeOf, w_X2_isAtGoalAfter, w_X2_cellAfter, okA, okI, jn_def, pair_ex, some_ex, a0, a1, a2, a3, a4, b0, b1, b2, b3, b4, b7, d0, d1, d2, d3, d4, d7, k0, k1, k2, k3, k4, k5, g0, g1, g2, g3, g4, g5, g6, g7, p0, p1, p2, p3, p4, p5, p6, q0, q1, q2, q3, q4, q5, q6, v0, v1, v2, v3, v4, v5, v6, v7, v8, w0, w1, w2, w3, w4, w5, w6, w7, w8, w9, Nat.add_left_cancel_iff, Nat.reduceEqDiff, Nat.add_eq_left, Nat.left_eq_add, if_true, if_false, Nat.reduceAdd, true_and, and_true, Nat.one_ne_zero, Nat.succ_ne_self, e, e3, e4, e5, f0, f8, x1, x2, x3, x4, y1, y2, y3, y4]
  refine ⟨fun h3 => own (fun h => h3 h.1), fun h3 => ⟨fun h0 => own (fun h => by have := h.2.1; omega), fun h0 => ?_⟩⟩
  rcases pf_cases (c0 := c0) (c1 := c1) (st := st) hk with h | ⟨j, j1, j2, -⟩
  · have h3' : kfA c0 c1 st k = 3 := h3
    omega
  · have j2' : (prA c0 c1 st).1 k = (j : Int) := j2
    have l1 := Lc_lt j1
    have f1 := d6 _ l1
    have f9 := d8 j j1
    have z1 : (0 : Int) ≤ (j : Int) := by omega
    have z2 : (j : Int) < ((40 : Nat) : Int) := by omega
    have z3 : (0 : Int) ≤ (Lc c1 j : Int) := by omega
    have z4 : (Lc c1 j : Int) < ((80 : Nat) : Int) := by omega
    simp only [j2', f1, f9, z1, z2, z3, z4, Nat.add_left_cancel_iff, Nat.reduceEqDiff, Nat.add_eq_left, Nat.left_eq_add, if_true, if_false, Nat.reduceAdd, true_and, and_true, Nat.one_ne_zero, Nat.succ_ne_self]
    refine ⟨fun hn => ⟨.inl trivial, ?_⟩, fun hy => ⟨.inr trivial, ?_⟩⟩
    · exact ⟨fun _ => own (fun h => hn h.2.2), fun h => absurd trivial h⟩
    · refine ⟨fun h => absurd h (by omega), fun _ => ?_⟩
      unfold pcA at q
      rw [if_pos ⟨h3, by omega, hy⟩, j2, toN] at q
      exact q
theorem m_letter0 {zz : Nat → Nat} {s t0 t1 F i : Nat} {v : Int} {h : AH} {Q : Int → AH → Prop} {c0 c1 st : Nat → Int} (A : WA h s t0 t1 c0 c1 st F) (hi : i < Nc c0) (hv : 0 ≤ v ∧ v ≤ 5) (q : Q (let0 c0 c1 st i v) h) : w_X1_letterProperty zz (s + 8) (0 : Int) i v h Q := by
  have A0 := A
  obtain ⟨S, P, M, X, W, hg, hc0, hc1⟩ := A
  have h40 : Nc c0 ≤ 40 := hc0.2
  obtain ⟨⟨a0, a1, a2, a3, a4, a5, a6⟩, ⟨⟨b0, b1, b2, b3, b4, b5⟩, b6, b7, b8⟩, ⟨⟨d0, d1, d2, d3, d4, d5⟩, d6, d7, d8⟩, a9⟩ := S
  obtain ⟨k0, k1, k2, k3, k4, k5, g0, g1, g2, g3, g4, g5, g6, g7⟩ := X
  obtain ⟨p0, p1, p2, p3, p4, p5, p6, q0, q1, q2, q3, q4, q5, q6⟩ := P
  obtain ⟨e1, e2, e3, e4⟩ := W.1 i (by omega)
  have l0 := Lc_lt hi
  have f0 := b6 _ l0
  have f8 := b8 i hi
  have x1 : (0 : Int) ≤ (i : Int) := by omega
  have x2 : (i : Int) < ((40 : Nat) : Int) := by omega
  have x3 : (0 : Int) ≤ (Lc c0 i : Int) := by omega
  have x4 : (Lc c0 i : Int) < ((80 : Nat) : Int) := by omega
  have x5 : (0 : Int) < 16 := by omega
  unfold let0 at q
  unfold w_X1_letterProperty
  simp only [txt0, w_X5_codeOf, w_X5_rowOf, w_X5_columnOf, okA, okI, jn_def, pair_ex, some_ex, a0, a1, a2, a3, a4, b0, b1, b2, b3, b4, b7, d0, d1, d2, d3, d4, d7, k0, k1, k2, k3, k4, k5, g0, g1, g2, g3, g4, g5, g6, g7, p0, p1, p2, p3, p4, p5, p6, q0, q1, q2, q3, q4, q5, q6, Nat.add_left_cancel_iff, Nat.reduceEqDiff, Nat.add_eq_left, Nat.left_eq_add, if_true, if_false, Nat.reduceAdd, true_and, and_true, Nat.one_ne_zero, Nat.succ_ne_self, e1, e3, f0, f8, x1, x2, x3, x4, x5]
  refine ⟨fun h => absurd trivial h, fun _ => ⟨fun e => ?_, fun e => ?_, fun e => ?_, fun e => ?_, fun e => ⟨fun h => absurd trivial h, fun _ => ?_⟩, fun e => ⟨fun hn => ⟨fun h => absurd trivial h, fun _ => ?_⟩, fun hn => ?_⟩⟩⟩
  · subst e; exact q
  · subst e; exact q
  · subst e; exact q
  · subst e; exact q
  · subst e; exact q
  · obtain rfl : v = 5 := by omega
    rcases pf_cases (c0 := c0) (c1 := c1) (st := st) hi with h | ⟨j, j1, j2, -⟩
    · exact absurd h.1 hn
    · have j2' : (prA c0 c1 st).1 i = (j : Int) := j2
      rw [j2']
      refine m_pdist A0 hi j1 ?_
      have e : disA c0 c1 st i = dsL c0 c1 st i j := by unfold disA; rw [if_neg (by omega), j2, toN]
      rw [← e]; exact q
  · obtain rfl : v = 5 := by omega
    have e : disA c0 c1 st i = 0 := by unfold disA; rw [if_pos hn]
    rw [← e]; exact q
theorem m_letter1 {zz : Nat → Nat} {s t0 t1 F i : Nat} {v : Int} {h : AH} {Q : Int → AH → Prop} {c0 c1 st : Nat → Int} (A : WA h s t0 t1 c0 c1 st F) (hi : i < Nc c1) (hv : 0 ≤ v ∧ v ≤ 5) (q : Q (let1 c0 c1 st i v) h) : w_X1_letterProperty zz (s + 8) (1 : Int) i v h Q := by
  have A0 := A
  obtain ⟨S, P, M, X, W, hg, hc0, hc1⟩ := A
  have h40 : Nc c1 ≤ 40 := hc1.2
  obtain ⟨⟨a0, a1, a2, a3, a4, a5, a6⟩, ⟨⟨b0, b1, b2, b3, b4, b5⟩, b6, b7, b8⟩, ⟨⟨d0, d1, d2, d3, d4, d5⟩, d6, d7, d8⟩, a9⟩ := S
  obtain ⟨k0, k1, k2, k3, k4, k5, g0, g1, g2, g3, g4, g5, g6, g7⟩ := X
  obtain ⟨p0, p1, p2, p3, p4, p5, p6, q0, q1, q2, q3, q4, q5, q6⟩ := P
  obtain ⟨e1, e2, e3, e4⟩ := W.1 i (by omega)
  have l0 := Lc_lt hi
  have f0 := d6 _ l0
  have f8 := d8 i hi
  have x1 : (0 : Int) ≤ (i : Int) := by omega
  have x2 : (i : Int) < ((40 : Nat) : Int) := by omega
  have x3 : (0 : Int) ≤ (Lc c1 i : Int) := by omega
  have x4 : (Lc c1 i : Int) < ((80 : Nat) : Int) := by omega
  have x5 : (0 : Int) < 16 := by omega
  have x6 : ¬ ((1 : Int) = 0) := by omega
  unfold let1 at q
  unfold w_X1_letterProperty
  simp only [txt1, w_X5_codeOf, w_X5_rowOf, w_X5_columnOf, okA, okI, jn_def, pair_ex, some_ex, a0, a1, a2, a3, a4, b0, b1, b2, b3, b4, b7, d0, d1, d2, d3, d4, d7, k0, k1, k2, k3, k4, k5, g0, g1, g2, g3, g4, g5, g6, g7, p0, p1, p2, p3, p4, p5, p6, q0, q1, q2, q3, q4, q5, q6, Nat.add_left_cancel_iff, Nat.reduceEqDiff, Nat.add_eq_left, Nat.left_eq_add, if_true, if_false, Nat.reduceAdd, true_and, and_true, Nat.one_ne_zero, Nat.succ_ne_self, e2, e4, f0, f8, x1, x2, x3, x4, x5, x6]
  refine ⟨fun _ => ⟨fun e => ?_, fun e => ?_, fun e => ?_, fun e => ?_, fun e => ⟨fun _ => ?_, fun h => h.elim⟩, fun e => ⟨fun hn => ⟨fun _ => ?_, fun h => h.elim⟩, fun hn => ?_⟩⟩, fun h => h.elim⟩
  · subst e; exact q
  · subst e; exact q
  · subst e; exact q
  · subst e; exact q
  · subst e; exact q
  · obtain rfl : v = 5 := by omega
    rcases ps_cases (c0 := c0) (c1 := c1) (st := st) hi with h | ⟨j, j1, j2, -⟩
    · exact absurd h.1 hn
    · have j2' : (prA c0 c1 st).2.1 i = (j : Int) := j2
      rw [j2']
      refine m_pdist A0 j1 hi ?_
      have e : (if psA c0 c1 st i = -1 then 0 else dsL c0 c1 st (psA c0 c1 st i).toNat i) = dsL c0 c1 st j i := by rw [if_neg (by omega), j2, toN]
      rw [← e]; exact q
  · obtain rfl : v = 5 := by omega
    have e : (if psA c0 c1 st i = -1 then 0 else dsL c0 c1 st (psA c0 c1 st i).toNat i) = 0 := by rw [if_pos hn]
    rw [← e]; exact q
theorem m_wayP {zz : Nat → Nat} {s t0 t1 F k : Nat} {v : Int} {h : AH} {Q : Int → AH → Prop} {c0 c1 st : Nat → Int} (A : WA h s t0 t1 c0 c1 st F) (hk : k < Nc c0) (hv : 0 ≤ v ∧ v ≤ 2) (q : Q (wayA c0 c1 st F k v) h) : w_X1_wayProperty zz (s + 8) k v h Q := by
  have A0 := A
  obtain ⟨S, P, M, X, W, hg, hc0, hc1⟩ := A
  have h40 : Nc c0 ≤ 40 := hc0.2
  have hF := W.2.2.2.2.2.2.2
  have sb := sti_bd (c0 := c0) (c1 := c1) hg h40
  obtain ⟨k0, k1, k2, k3, k4, k5, g0, g1, g2, g3, g4, g5, g6, g7⟩ := X
  obtain ⟨v0, v1, v2, v3, v4, v5, v6, v7, v8, w0, w1, w2, w3, w4, w5, w6, w7, w8, w9⟩ := M
  obtain ⟨y1, y2, y3, y4, y5⟩ := W.2.2.1.2.1.1 k hk
  have mb := mfA_bd (c0 := c0) (c1 := c1) hg (t := F) hk
  have mb4 : 0 ≤ (mfA c0 c1 st F).2.2.2.1 k ∧ (mfA c0 c1 st F).2.2.2.1 k ≤ (F : Int) := mb.2.2.2.1
  have y6 := W.2.2.2.1
  have x1 : (0 : Int) ≤ (k : Int) := by omega
  have x2 : (k : Int) < ((40 : Nat) : Int) := by omega
  unfold wayA at q
  unfold w_X1_wayProperty
  refine ⟨fun e => ?_, fun e => ?_, fun e => ?_⟩
  · subst e; exact ⟨by rw [okA_of k0], m_steps A0 hk q⟩
  · subst e
    simp only [okA, okI, pair_ex, some_ex, v0, v1, v2, v3, v4, v5, v6, v7, v8, w0, w1, w2, w3, w4, w5, w6, w7, w8, w9, k0, k1, k2, k3, k4, k5, g0, g1, g2, g3, g4, g5, g6, g7, Nat.add_left_cancel_iff, Nat.reduceEqDiff, Nat.add_eq_left, Nat.left_eq_add, if_true, if_false, Nat.reduceAdd, true_and, and_true, Nat.one_ne_zero, Nat.succ_ne_self, y4, x1, x2]; exact q
  · obtain rfl : v = 2 := by omega
    refine ⟨by rw [okA_of k0], m_vanishes A0 hk ?_⟩
    have q2 : Q (if kfA c0 c1 st k = 4 then gonA c0 c1 st k else arrA c0 c1 st F k) h := q
    by_cases h4 : kfA c0 c1 st k = 4
    · rw [if_pos h4] at q2 ⊢
      have e9 := W.2.2.2.2.1 k hk h4
      simp only [okA, okI, jn_def, pair_ex, some_ex, v0, v1, v2, v3, v4, v5, v6, v7, v8, w0, w1, w2, w3, w4, w5, w6, w7, w8, w9, k0, k1, k2, k3, k4, k5, g0, g1, g2, g3, g4, g5, g6, g7, Nat.add_left_cancel_iff, Nat.reduceEqDiff, Nat.add_eq_left, Nat.left_eq_add, if_true, if_false, Nat.reduceAdd, true_and, and_true, Nat.one_ne_zero, Nat.succ_ne_self, e9, x1, x2]
      exact ⟨fun h => absurd h (by omega), fun _ => q2⟩
    · rw [if_neg h4] at q2 ⊢
      have y7 : inR (sti c0 c1 st + (mfA c0 c1 st F).2.2.2.1 k) := by unfold inR; omega
      simp only [okA, okI, jn_def, pair_ex, some_ex, v0, v1, v2, v3, v4, v5, v6, v7, v8, w0, w1, w2, w3, w4, w5, w6, w7, w8, w9, k0, k1, k2, k3, k4, k5, g0, g1, g2, g3, g4, g5, g6, g7, Nat.add_left_cancel_iff, Nat.reduceEqDiff, Nat.add_eq_left, Nat.left_eq_add, if_true, if_false, Nat.reduceAdd, true_and, and_true, Nat.one_ne_zero, Nat.succ_ne_self, y5, y6, y7, x1, x2]
      refine ⟨fun _ => ⟨fun hn => ?_, fun he => ?_⟩, fun h => absurd trivial h⟩
      · unfold arrA at q2; rw [if_neg hn] at q2; exact q2
      · unfold arrA at q2; rw [if_pos he] at q2; exact q2
