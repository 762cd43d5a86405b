/-! THE PURE LAYER, 5: the class's pairing, whole -/
theorem m_leaves {zz : Nat → Nat} {s t0 t1 i fr d : Nat} {h : AH} {Q : Int → AH → Prop} {c0 c1 st : Nat → Int} (S : St h s t0 t1 c0 c1 st) (P : PK h s) (L : LT h s c0 c1) (hi : i < Nc c0) (hf : fr ≤ Nc c1) (h0 : Nc c0 ≤ 40) (h1 : Nc c1 ≤ 40) (hd : d + 1 = lgT (eqB c0 c1) (Nc c0) (Nc c1) i fr) (q : Q (match fnd (cmP (eqB c0 c1) (Nc c0) (Nc c1) i fr) (Nc c1 - fr) fr with | none => -1 | some j => (j : Int)) h) : w_X3_partnerThatLeaves zz (s + 14) (d : Int) i fr h Q := by
  have S0 := S
  have P0 := P
  obtain ⟨⟨a0, a1, a2, a3, a4, a5, a6⟩, ⟨⟨b0, b1, b2, b3, b4, b5⟩, b6, b7, b8⟩, ⟨⟨d0, d1, d2, d3, d4, d5⟩, d6, d7, d8⟩, a9⟩ := S
  obtain ⟨p0, p1, p2, p3, p4, p5, p6, q0, q1, q2, q3, q4, q5, q6⟩ := P
  have e0 := b8 i hi
  have l0 := Lc_lt hi
  have f0 := b6 _ l0
  unfold w_X3_partnerThatLeaves
  simp only [txt0, w_X5_codeOf, okA, okI, pair_ex, some_ex, a0, a1, a2, a3, a4, b0, b1, b2, b3, b4, b7, d0, d1, d2, d3, d4, d7, p0, p1, p2, p3, p4, p5, p6, q0, q1, q2, q3, q4, q5, q6, Nat.add_left_cancel_iff, Nat.reduceEqDiff, Nat.add_eq_left, Nat.left_eq_add, if_true, if_false, Nat.reduceAdd, true_and, and_true, Nat.one_ne_zero, Nat.succ_ne_self, e0, f0]
  refine ⟨⟨by omega, by omega⟩, ⟨by omega, by omega⟩, ?_⟩
  obtain ⟨I, hI⟩ : ∃ I : Nat → Int → AH → Prop, ∀ m x h', I m x h' ↔ ∃ k : Nat, fr ≤ k ∧ k ≤ Nc c1 ∧ m = Nc c1 - k ∧ x = (k : Int) ∧ h' = h ∧ ∀ y, fr ≤ y → y < k → cmP (eqB c0 c1) (Nc c0) (Nc c1) i fr y = false := ⟨_, fun _ _ _ => Iff.rfl⟩
  refine ⟨I, ⟨_, (hI _ _ _).mpr ⟨fr, by omega, hf, rfl, rfl, rfl, fun y h1 h2 => by omega⟩⟩, ?_⟩
  intro m x h' hi9
  obtain ⟨k, hk1, hk2, rfl, rfl, rfl, hno⟩ := (hI _ _ _).mp hi9
  simp only [txt1, hkd_sfI, hkd_sfR, hkd_sfL, hkd_saI, hkd_saR, hkd_saL, hkd_nGb, hlo_sfI, hlo_sfR, hlo_sfL, hlo_saI, hlo_saR, hlo_saL, hlo_nGb, hfR_sfI, hfR_sfL, hfR_saI, hfR_saR, hfR_saL, hfR_nGb, hfI_sfR, hfI_sfL, hfI_saI, hfI_saR, hfI_saL, hfI_nGb, haI_sfI, haI_sfR, haI_sfL, haI_saR, haI_saL, haI_nGb, haR_sfI, haR_sfR, haR_saI, haR_nGb, haL_sfI, haL_saI, hfL_sfI, hfL_saI, hfI_sfI, hfR_sfR, hfL_sfL, haI_saI, haR_saR, haL_saL, okA, okP, okI, okW, okJ, okV, okQ, okU, okC, jn_def, pair_ex, some_ex, forall_eq, a0, a1, a2, a3, a4, b0, b1, b2, b3, b4, b7, d0, d1, d2, d3, d4, d7, p0, p1, p2, p3, p4, p5, p6, q0, q1, q2, q3, q4, q5, q6, Nat.add_left_cancel_iff, Nat.reduceEqDiff, Nat.add_eq_left, Nat.left_eq_add, if_true, if_false, Nat.reduceAdd, true_and, and_true, Nat.one_ne_zero, Nat.succ_ne_self, inR]
  refine ⟨fun hc => ?_, fun hc => ?_⟩
  · rw [fnd_none.mpr (fun y h1 h2 => hno y h1 (by omega))] at q
    exact q
  · have hk : k < Nc c1 := by omega
    have e1 := d8 k hk
    have l1 := Lc_lt hk
    have f1 := d6 _ l1
    have t1' := L (i + 1) (k + 1) (by omega) (by omega)
    rw [show 41 * ((i + 1 : Nat) : Int) + ((k + 1 : Nat) : Int) = ((i : Int) + 1) * 41 + (k : Int) + 1 by omega] at t1'
    simp only [w_X5_codeOf, hkd_sfI, hkd_sfR, hkd_sfL, hkd_saI, hkd_saR, hkd_saL, hkd_nGb, hlo_sfI, hlo_sfR, hlo_sfL, hlo_saI, hlo_saR, hlo_saL, hlo_nGb, hfR_sfI, hfR_sfL, hfR_saI, hfR_saR, hfR_saL, hfR_nGb, hfI_sfR, hfI_sfL, hfI_saI, hfI_saR, hfI_saL, hfI_nGb, haI_sfI, haI_sfR, haI_sfL, haI_saR, haI_saL, haI_nGb, haR_sfI, haR_sfR, haR_saI, haR_nGb, haL_sfI, haL_saI, hfL_sfI, hfL_saI, hfI_sfI, hfR_sfR, hfL_sfL, haI_saI, haR_saR, haL_saL, okA, okP, okI, okW, okJ, okV, okQ, okU, okC, jn_def, pair_ex, some_ex, forall_eq, a0, a1, a2, a3, a4, b0, b1, b2, b3, b4, b7, d0, d1, d2, d3, d4, d7, p0, p1, p2, p3, p4, p5, p6, q0, q1, q2, q3, q4, q5, q6, Nat.add_left_cancel_iff, Nat.reduceEqDiff, Nat.add_eq_left, Nat.left_eq_add, if_true, if_false, Nat.reduceAdd, true_and, and_true, Nat.one_ne_zero, Nat.succ_ne_self, e1, f1, t1', inR, and_assoc]
    have go : cmP (eqB c0 c1) (Nc c0) (Nc c1) i fr k = false → (-2147483648 ≤ (k : Int) + 1 ∧ (k : Int) + 1 ≤ 2147483647 ∧ ∃ m, m < Nc c1 - k ∧ I m ((k : Int) + 1) h') := fun hc => ⟨by omega, by omega, Nc c1 - (k + 1), by omega, (hI _ _ _).mpr ⟨k + 1, by omega, by omega, rfl, by omega, rfl, fun y h1 h2 => by
      by_cases e : y = k
      · rw [e]; exact hc
      · exact hno y h1 (by omega)⟩⟩
    refine ⟨by omega, by omega, by omega, by omega, fun ne => go ?_, fun e => ⟨by omega, by omega, by omega, by omega, by omega, by omega, by omega, by omega, by omega, by omega, fun ne => go ?_, fun e2 => ?_⟩⟩
    · have hE : eqB c0 c1 i k = false := decide_eq_false (fun e => ne e.symm)
      unfold cmP; rw [hE]; rfl
    · unfold cmP
      rw [decide_eq_false (by omega), Bool.and_false]
    · rw [fnd_is (x := k) hk1 (by omega) (by
        have hE : eqB c0 c1 i k = true := decide_eq_true e.symm
        unfold cmP; rw [hE, decide_eq_true (by omega)]; rfl) hno] at q
      exact q
theorem m_common {zz : Nat → Nat} {s t0 t1 : Nat} {h : AH} {Q : AH → Prop} {c0 c1 st : Nat → Int} (S : St h s t0 t1 c0 c1 st) (P : PK h s) (R : PR h s pE) (O : PO h s (Nc c0) (Nc c1) pE) (h0 : Nc c0 ≤ 40) (h1 : Nc c1 ≤ 40) (q : ∀ h' : AH, Fr h h' (s + 15) (s + 21) → PR h' s (prC c0 c1) → PO h' s (Nc c0) (Nc c1) (prC c0 c1) → Q h') : w_X3_pairCommon zz (s + 14) h Q := by
  have P0 := P
  have S0 := S
  have lo := S.1.2.2.2.2.2.1
  unfold w_X3_pairCommon
  refine ⟨by rw [okA_of P.1], ?_⟩
  refine m_measure S P h0 h1 (fun g F L => ?_)
  have R' := R.fr F (by omega)
  have O' := O.fr F (by omega)
  have Pg := P.fr F
  have z0 : haI g (s + 20) (0 : Int) = (lgT (eqB c0 c1) (Nc c0) (Nc c1) 0 0 : Int) := L 0 0 (by omega) (by omega)
  have F1 := F.wide (a' := s + 15) (b' := s + 21) (by omega) (by omega)
  revert F1
  intro F1
  obtain ⟨p0, p1, p2, p3, p4, p5, p6, q0, q1, q2, q3, q4, q5, q6⟩ := Pg
  simp only [okA, okI, pair_ex, some_ex, forall_eq, p0, p1, p2, p3, p4, p5, p6, q0, q1, q2, q3, q4, q5, q6, Nat.add_left_cancel_iff, Nat.reduceEqDiff, Nat.add_eq_left, Nat.left_eq_add, if_true, if_false, Nat.reduceAdd, true_and, and_true, Nat.one_ne_zero, Nat.succ_ne_self, z0]
  refine ⟨⟨by omega, by omega⟩, ?_⟩
  obtain ⟨I, hI⟩ : ∃ I : Nat → Int → Int → Int → AH → Prop, ∀ m x1 x2 x3 h', I m x1 x2 x3 h' ↔ ∃ k : Nat, k ≤ Nc c0 ∧ m = Nc c0 - k ∧ x3 = (k : Int) ∧ x2 = ((cmn (eqB c0 c1) (Nc c0) (Nc c1) k).1 : Int) ∧ x1 = (lgT (eqB c0 c1) (Nc c0) (Nc c1) k (cmn (eqB c0 c1) (Nc c0) (Nc c1) k).1 : Int) ∧ Fr h h' (s + 15) (s + 21) ∧ LT h' s c0 c1 ∧ PR h' s (cmn (eqB c0 c1) (Nc c0) (Nc c1) k).2 ∧ PO h' s (Nc c0) (Nc c1) (cmn (eqB c0 c1) (Nc c0) (Nc c1) k).2 := ⟨_, fun _ _ _ _ _ => Iff.rfl⟩
  refine ⟨I, ⟨_, (hI _ _ _ _ _).mpr ⟨0, by omega, rfl, rfl, rfl, rfl, F1, L, R', O'⟩⟩, ?_⟩
  intro m x1 x2 x3 h' hi9
  obtain ⟨k, hk, rfl, rfl, rfl, rfl, F2, L2, R2, O2⟩ := (hI _ _ _ _ _).mp hi9
  have S2 := S0.fr F2 (by omega)
  have P2 := P0.fr F2
  have S3 := S2
  have P3 := P2
  have W := cmn_w (eq := eqB c0 c1) (n0 := Nc c0) (n1 := Nc c1) k hk
  have bd := lgT_bd (eq := eqB c0 c1) (n0 := Nc c0) (n1 := Nc c1) (i := k) (j := (cmn (eqB c0 c1) (Nc c0) (Nc c1) k).1)
  have stay : ∀ y, k ≤ y → y ≤ Nc c0 → lgT (eqB c0 c1) (Nc c0) (Nc c1) k (cmn (eqB c0 c1) (Nc c0) (Nc c1) k).1 = 0 → cmn (eqB c0 c1) (Nc c0) (Nc c1) y = cmn (eqB c0 c1) (Nc c0) (Nc c1) k ∧ lgT (eqB c0 c1) (Nc c0) (Nc c1) y (cmn (eqB c0 c1) (Nc c0) (Nc c1) k).1 = 0 := by
    intro y hy1 hy2 hz
    induction y with
    | zero => obtain rfl : k = 0 := by omega
              exact ⟨rfl, hz⟩
    | succ y ih =>
      by_cases e : k = y + 1
      · rw [← e]; exact ⟨rfl, hz⟩
      · obtain ⟨i1, i2⟩ := ih (by omega) (by omega)
        have i3 := lgT_le (eq := eqB c0 c1) (n1 := Nc c1) (j := (cmn (eqB c0 c1) (Nc c0) (Nc c1) k).1) (show y < Nc c0 by omega)
        refine ⟨?_, by omega⟩
        show cmS (eqB c0 c1) (Nc c0) (Nc c1) y (cmn (eqB c0 c1) (Nc c0) (Nc c1) y) = _
        rw [i1]
        unfold cmS
        rw [fnd_none.mpr (fun x h1 h2 => ?_)]
        unfold cmP
        rw [i2, decide_eq_false (by omega), Bool.and_false]
  obtain ⟨⟨a0, a1, a2, a3, a4, a5, a6⟩, ⟨⟨b0, b1, b2, b3, b4, b5⟩, b6, b7, b8⟩, ⟨⟨d0, d1, d2, d3, d4, d5⟩, d6, d7, d8⟩, a9⟩ := S2
  obtain ⟨p0, p1, p2, p3, p4, p5, p6, q0, q1, q2, q3, q4, q5, q6⟩ := P2
  simp only [txt0, okA, okI, jn_def, pair_ex, some_ex, forall_eq, a0, a1, a2, a3, a4, b0, b1, b2, b3, b4, b7, d0, d1, d2, d3, d4, d7, p0, p1, p2, p3, p4, p5, p6, q0, q1, q2, q3, q4, q5, q6, Nat.add_left_cancel_iff, Nat.reduceEqDiff, Nat.add_eq_left, Nat.left_eq_add, if_true, if_false, Nat.reduceAdd, true_and, and_true, Nat.one_ne_zero, Nat.succ_ne_self, inR]
  refine ⟨fun hc => ?_, fun hc => ⟨fun hz => ?_, fun hz => ⟨⟨by omega, by omega⟩, ?_⟩⟩⟩
  · obtain rfl : k = Nc c0 := by omega
    exact q h' F2 R2 O2
  · have := (stay (Nc c0) hk (Nat.le_refl _) (by omega)).1
    unfold prC at q
    rw [this] at q
    exact q h' F2 R2 O2
  · have hk9 : k < Nc c0 := by omega
    obtain ⟨d, hd⟩ : ∃ d : Nat, d + 1 = lgT (eqB c0 c1) (Nc c0) (Nc c1) k (cmn (eqB c0 c1) (Nc c0) (Nc c1) k).1 := ⟨lgT (eqB c0 c1) (Nc c0) (Nc c1) k (cmn (eqB c0 c1) (Nc c0) (Nc c1) k).1 - 1, by omega⟩
    rw [show (lgT (eqB c0 c1) (Nc c0) (Nc c1) k (cmn (eqB c0 c1) (Nc c0) (Nc c1) k).1 : Int) - 1 = (d : Int) by omega]
    refine m_leaves S3 P3 L2 hk9 W.2.1 h0 h1 hd ?_
    have step : cmn (eqB c0 c1) (Nc c0) (Nc c1) (k + 1) = cmS (eqB c0 c1) (Nc c0) (Nc c1) k (cmn (eqB c0 c1) (Nc c0) (Nc c1) k) := rfl
    unfold cmS at step
    cases e : fnd (cmP (eqB c0 c1) (Nc c0) (Nc c1) k (cmn (eqB c0 c1) (Nc c0) (Nc c1) k).1) (Nc c1 - (cmn (eqB c0 c1) (Nc c0) (Nc c1) k).1) (cmn (eqB c0 c1) (Nc c0) (Nc c1) k).1 with
    | none =>
      rw [e] at step
      have hst := cm_stay (eq := eqB c0 c1) hk9 _ _ rfl (fun x h1 h2 => fnd_none.mp e x h1 (by omega))
      refine ⟨fun _ => ⟨⟨by omega, by omega⟩, Nc c0 - (k + 1), by omega, (hI _ _ _ _ _).mpr ⟨k + 1, by omega, rfl, by omega, ?_, ?_, F2, L2, ?_, ?_⟩⟩, fun hx => absurd rfl hx⟩
      · rw [step]
      · rw [step, hst]
      · rw [step]; exact R2
      · rw [step]; exact O2
    | some j =>
      rw [e] at step
      have f := fnd_some e
      have hj : j < Nc c1 := by omega
      have hcm := f.2.2.1
      unfold cmP at hcm
      simp only [Bool.and_eq_true, decide_eq_true_eq] at hcm
      dsimp only at step ⊢
      refine ⟨fun hx => absurd hx (by omega), fun _ => ?_⟩
      refine ⟨by rw [p0], ?_⟩
      refine m_pair (n0 := Nc c0) (n1 := Nc c1) (k := 1) P3 S3.1.2.2.2.2.2.1 R2 O2 W.1 hk9 hj h0 h1 (W.2.2.1 k (Nat.le_refl _)) (W.2.2.2 j f.1) (by omega) (fun g2 F3 R3 O3 _ => ?_)
      refine ⟨⟨by omega, by omega⟩, ⟨by omega, by omega⟩, ⟨by omega, by omega⟩, Nc c0 - (k + 1), by omega, (hI _ _ _ _ _).mpr ⟨k + 1, by omega, rfl, by omega, ?_, ?_, F2.trans (F3.wide (by omega) (by omega)), ?_, ?_, ?_⟩⟩
      · rw [step]; show (j : Int) + 1 = ((j + 1 : Nat) : Int); omega
      · rw [step]; show (lgT (eqB c0 c1) (Nc c0) (Nc c1) k (cmn (eqB c0 c1) (Nc c0) (Nc c1) k).1 : Int) + -1 = (lgT (eqB c0 c1) (Nc c0) (Nc c1) (k + 1) (j + 1) : Int); omega
      · intro x y hx hy
        rw [F3.ai (by omega)]; exact L2 x y hx hy
      · rw [step]; exact R3
      · rw [step]; exact O3
/-- the best pair so far, as the class keeps it -/
def enc (d : Nat → Nat → Int) (reach : Int) (b : Option (Nat × Nat)) (x3 x4 x5 : Int) : Prop := match b with
  | none => x3 = -1 ∧ x4 = -1 ∧ x5 = reach + 1
  | some (x, y) => x3 = (x : Int) ∧ x4 = (y : Int) ∧ x5 = d x y ∧ d x y ≤ reach
theorem m_nearest {zz : Nat → Nat} {s t0 t1 k : Nat} {reach : Int} {h : AH} {Q : Int → AH → Prop} {c0 c1 st : Nat → Int} {σ : PT} (S : St h s t0 t1 c0 c1 st) (P : PK h s) (R : PR h s σ) (O : PO h s (Nc c0) (Nc c1) σ) (w : pw (Nc c0) (Nc c1) σ) (hg : GS st) (h0 : Nc c0 ≤ 40) (h1 : Nc c1 ≤ 40) (hk : 1 ≤ k ∧ k ≤ 3) (hr : 0 ≤ reach ∧ reach ≤ 200)
    (q0' : scI (canP c0 c1 st k reach σ) (dsL c0 c1 st) (Nc c1) (Nc c0) = none → Q 0 h) (q1' : ∀ (x y : Nat) (h' : AH), scI (canP c0 c1 st k reach σ) (dsL c0 c1 st) (Nc c1) (Nc c0) = some (x, y) → Fr h h' (s + 15) (s + 20) → PR h' s (pup σ x y k) → PO h' s (Nc c0) (Nc c1) (pup σ x y k) → pw (Nc c0) (Nc c1) (pup σ x y k) → Q 1 h') : w_X3_pairNearest zz (s + 14) (k : Int) reach h Q := by
  have S0 := S
  have P0 := P
  unfold w_X3_pairNearest
  refine ⟨by unfold inR; omega, ?_⟩
  intro x5 e5
  subst e5
  obtain ⟨I, hI⟩ : ∃ I : Nat → Int → Int → Int → Int → AH → Prop, ∀ m x3 x4 x5 x6 h', I m x3 x4 x5 x6 h' ↔ ∃ i : Nat, i ≤ Nc c0 ∧ m = Nc c0 - i ∧ x6 = (i : Int) ∧ h' = h ∧ enc (dsL c0 c1 st) reach (scI (canP c0 c1 st k reach σ) (dsL c0 c1 st) (Nc c1) i) x3 x4 x5 := ⟨_, fun _ _ _ _ _ _ => Iff.rfl⟩
  refine ⟨I, ⟨_, (hI _ _ _ _ _ _).mpr ⟨0, by omega, rfl, rfl, rfl, rfl, rfl, rfl⟩⟩, ?_⟩
  intro m x3 x4 x5 x6 h' hi9
  obtain ⟨i, hi, rfl, rfl, rfl, E⟩ := (hI _ _ _ _ _ _).mp hi9
  obtain ⟨⟨a0, a1, a2, a3, a4, a5, a6⟩, ⟨⟨b0, b1, b2, b3, b4, b5⟩, b6, b7, b8⟩, ⟨⟨d0, d1, d2, d3, d4, d5⟩, d6, d7, d8⟩, a9⟩ := S
  obtain ⟨p0, p1, p2, p3, p4, p5, p6, q0, q1, q2, q3, q4, q5, q6⟩ := P
  have W := scI_w (can := canP c0 c1 st k reach σ) (d := dsL c0 c1 st) (n1 := Nc c1) i hi
  simp only [txt0, txt1, okA, okI, jn_def, pair_ex, some_ex, a0, a1, a2, a3, a4, b0, b1, b2, b3, b4, b7, d0, d1, d2, d3, d4, d7, p0, p1, p2, p3, p4, p5, p6, q0, q1, q2, q3, q4, q5, q6, Nat.add_left_cancel_iff, Nat.reduceEqDiff, Nat.add_eq_left, Nat.left_eq_add, if_true, if_false, Nat.reduceAdd, true_and, and_true, Nat.one_ne_zero, Nat.succ_ne_self]
  refine ⟨fun hc => ?_, fun hc => ?_⟩
  · obtain rfl : i = Nc c0 := by omega
    cases e : scI (canP c0 c1 st k reach σ) (dsL c0 c1 st) (Nc c1) (Nc c0) with
    | none =>
      rw [e] at E
      obtain ⟨rfl, rfl, rfl⟩ := E
      exact ⟨fun _ => ⟨.inl trivial, q0' e⟩, fun hx => absurd rfl hx⟩
    | some z =>
      obtain ⟨x, y⟩ := z
      rw [e] at E
      obtain ⟨rfl, rfl, rfl, -⟩ := E
      have w2 := W x y e
      have w3 := canP_free _ _ _ w2.2.2
      refine ⟨fun hx => absurd hx (by omega), fun _ => ⟨fun _ => ?_, fun hx => absurd hx (by omega)⟩⟩
      exact m_pair P0 S0.1.2.2.2.2.2.1 R O w w2.1 w2.2.1 h0 h1 w3.1 w3.2 hk (fun g F3 R3 O3 w4 => ⟨.inr trivial, q1' x y g e F3 R3 O3 w4⟩)
  · have hi8 : i < Nc c0 := by omega
    obtain ⟨J, hJ⟩ : ∃ J : Nat → Int → Int → Int → Int → AH → Prop, ∀ m x3 x4 x5 x7 g, J m x3 x4 x5 x7 g ↔ ∃ j : Nat, j ≤ Nc c1 ∧ m = Nc c1 - j ∧ x7 = (j : Int) ∧ g = h' ∧ enc (dsL c0 c1 st) reach (scJ (canP c0 c1 st k reach σ) (dsL c0 c1 st) i (scI (canP c0 c1 st k reach σ) (dsL c0 c1 st) (Nc c1) i) j) x3 x4 x5 := ⟨_, fun _ _ _ _ _ _ => Iff.rfl⟩
    refine ⟨J, ⟨_, (hJ _ _ _ _ _ _).mpr ⟨0, by omega, rfl, rfl, rfl, E⟩⟩, ?_⟩
    intro m y3 y4 y5 x7 g hj9
    obtain ⟨j, hj, rfl, rfl, rfl, E2⟩ := (hJ _ _ _ _ _ _).mp hj9
    simp only [txt0, txt1, okA, okI, jn_def, pair_ex, some_ex, forall_eq, a0, a1, a2, a3, a4, b0, b1, b2, b3, b4, b7, d0, d1, d2, d3, d4, d7, p0, p1, p2, p3, p4, p5, p6, q0, q1, q2, q3, q4, q5, q6, Nat.add_left_cancel_iff, Nat.reduceEqDiff, Nat.add_eq_left, Nat.left_eq_add, if_true, if_false, Nat.reduceAdd, true_and, and_true, Nat.one_ne_zero, Nat.succ_ne_self, inR]
    refine ⟨fun hc2 => ?_, fun hc2 => ?_⟩
    · obtain rfl : j = Nc c1 := by omega
      exact ⟨⟨by omega, by omega⟩, Nc c0 - (i + 1), by omega, (hI _ _ _ _ _ _).mpr ⟨i + 1, by omega, rfl, by omega, rfl, E2⟩⟩
    · have hj8 : j < Nc c1 := by omega
      have W2 := scJ_w (can := canP c0 c1 st k reach σ) (d := dsL c0 c1 st) W hi8 j hj
      have go : ∀ z3 z4 z5, enc (dsL c0 c1 st) reach (sc1 (canP c0 c1 st k reach σ) (dsL c0 c1 st) (scJ (canP c0 c1 st k reach σ) (dsL c0 c1 st) i (scI (canP c0 c1 st k reach σ) (dsL c0 c1 st) (Nc c1) i) j) i j) z3 z4 z5 → ((-2147483648 ≤ (j : Int) + 1 ∧ (j : Int) + 1 ≤ 2147483647) ∧ ∃ m, m < Nc c1 - j ∧ J m z3 z4 z5 ((j : Int) + 1) g) := fun z3 z4 z5 hz => ⟨⟨by omega, by omega⟩, Nc c1 - (j + 1), by omega, (hJ _ _ _ _ _ _).mpr ⟨j + 1, by omega, rfl, by omega, rfl, hz⟩⟩
      have hmb := canP_mb (c0 := c0) (c1 := c1) (st := st) (k := (k : Int)) (reach := reach) (σ := σ) (i := i) (j := j)
      refine m_may S0 P0 R hi8 hj8 h0 h1 ?_
      generalize scJ (canP c0 c1 st k reach σ) (dsL c0 c1 st) i (scI (canP c0 c1 st k reach σ) (dsL c0 c1 st) (Nc c1) i) j = b at E2 W2 go
      have stays : canP c0 c1 st k reach σ i j = false ∨ y5 ≤ dsL c0 c1 st i j → enc (dsL c0 c1 st) reach (sc1 (canP c0 c1 st k reach σ) (dsL c0 c1 st) b i j) y3 y4 y5 := by
        intro hx
        cases b with
        | none =>
          obtain ⟨u1, u2, u3⟩ := E2
          have : canP c0 c1 st k reach σ i j = false := by
            rcases hx with hx | hx
            · exact hx
            · rw [hmb, decide_eq_false (by omega), Bool.and_false]
          unfold sc1
          simp only [this, Bool.false_eq_true, if_false]
          exact ⟨u1, u2, u3⟩
        | some z =>
          obtain ⟨x, y⟩ := z
          obtain ⟨u1, u2, u3, u4⟩ := E2
          unfold sc1
          simp only
          rw [if_neg (fun ⟨v1, v2⟩ => by
            rcases hx with hx | hx
            · rw [hx] at v1; cases v1
            · omega)]
          exact ⟨u1, u2, u3, u4⟩
      by_cases hm : mbB c0 c1 st k σ i j = true
      · rw [if_pos hm]
        refine ⟨fun hx => absurd hx (by omega), fun _ => ?_⟩
        refine ⟨by rw [p0], m_dist S0 P0 hg hi8 hj8 h0 h1 ?_⟩
        refine ⟨fun hx => go _ _ _ (stays (.inr hx)), fun hx => ?_⟩
        refine ⟨by rw [p0], m_dist S0 P0 hg hi8 hj8 h0 h1 ?_⟩
        refine go _ _ _ ?_
        cases b with
        | none =>
          obtain ⟨u1, u2, u3⟩ := E2
          have : canP c0 c1 st k reach σ i j = true := by
            rw [hmb, hm, decide_eq_true (by omega)]; rfl
          unfold sc1
          simp only [this, if_true]
          exact ⟨rfl, rfl, rfl, by omega⟩
        | some z =>
          obtain ⟨x, y⟩ := z
          obtain ⟨u1, u2, u3, u4⟩ := E2
          have : canP c0 c1 st k reach σ i j = true := by
            rw [hmb, hm, decide_eq_true (by omega)]; rfl
          unfold sc1
          simp only
          rw [if_pos ⟨this, by omega⟩]
          exact ⟨rfl, rfl, rfl, by omega⟩
      · rw [if_neg hm]
        refine ⟨fun _ => go _ _ _ (stays (.inl ?_)), fun hx => absurd rfl hx⟩
        rw [hmb, Bool.eq_false_iff.mpr hm]; rfl
theorem m_pwork {zz : Nat → Nat} {s t0 t1 : Nat} {h : AH} {Q : AH → Prop} {c0 c1 st : Nat → Int} (S : St h s t0 t1 c0 c1 st) (P : PK h s) (hg : GS st) (h0 : Nc c0 ≤ 40) (h1 : Nc c1 ≤ 40) (q : ∀ h' : AH, Fr h h' (s + 15) (s + 21) → PR h' s (prA c0 c1 st) → PO h' s (Nc c0) (Nc c1) (prA c0 c1 st) → Q h') : w_X3_work zz (s + 14) h Q := by
  have wC : pw (Nc c0) (Nc c1) (prC c0 c1) := (cmn_w _ (Nat.le_refl _)).1
  have wM : ∀ m, pw (Nc c0) (Nc c1) (nrs (canP c0 c1 st 2 (st 1)) (dsL c0 c1 st) (Nc c0) (Nc c1) 2 (prC c0 c1) m) := nrs_w (by omega) canP_free wC
  have wA : ∀ m, pw (Nc c0) (Nc c1) (nrs (canP c0 c1 st 3 (st 2)) (dsL c0 c1 st) (Nc c0) (Nc c1) 3 (prM c0 c1 st) m) := nrs_w (by omega) canP_free (wM 40)
  unfold w_X3_work
  refine ⟨by rw [okA_of P.1], m_unpair S P (fun ha Fa Ra Oa => ?_)⟩
  have Sa := S.fr Fa (by omega)
  have Pa := P.fr Fa
  refine ⟨by rw [okA_of Pa.1], m_common Sa Pa Ra Oa h0 h1 (fun hb Fb Rb Ob => ?_)⟩
  have F0 := (Fa.wide (a' := s + 15) (b' := s + 21) (by omega) (by omega)).trans Fb
  obtain ⟨I, hI⟩ : ∃ I : Nat → Int → Int → AH → Prop, ∀ m x1 x2 h', I m x1 x2 h' ↔ ∃ k : Nat, k ≤ 40 ∧ m = 40 - k ∧ x2 = (k : Int) ∧ Fr h h' (s + 15) (s + 21) ∧ PR h' s (nrs (canP c0 c1 st 2 (st 1)) (dsL c0 c1 st) (Nc c0) (Nc c1) 2 (prC c0 c1) k) ∧ PO h' s (Nc c0) (Nc c1) (nrs (canP c0 c1 st 2 (st 1)) (dsL c0 c1 st) (Nc c0) (Nc c1) 2 (prC c0 c1) k) ∧ (x1 = 1 ∨ x1 = 0 ∧ scI (canP c0 c1 st 2 (st 1) (nrs (canP c0 c1 st 2 (st 1)) (dsL c0 c1 st) (Nc c0) (Nc c1) 2 (prC c0 c1) k)) (dsL c0 c1 st) (Nc c1) (Nc c0) = none) := ⟨_, fun _ _ _ _ => Iff.rfl⟩
  refine ⟨I, ⟨_, (hI _ _ _ _).mpr ⟨0, by omega, rfl, rfl, F0, Rb, Ob, .inl rfl⟩⟩, ?_⟩
  intro m x1 x2 h' hi9
  obtain ⟨k, hk, rfl, rfl, F, R, O, hx⟩ := (hI _ _ _ _).mp hi9
  have second : PR h' s (prM c0 c1 st) → PO h' s (Nc c0) (Nc c1) (prM c0 c1 st) → ∃ I_47 : Nat → Int → Int → AH → Prop, (∃ n, I_47 n (1 : Int) (0 : Int) h') ∧ ∀ (n_47 : Nat) (x1_47 : Int) (x2_47 : Int) (h_47 : AH), I_47 n_47 x1_47 x2_47 h_47 → (jn (fun  (h_78 : AH) => Q h_78) (fun k_78 : AH → Prop => (((40 : Int) ≤ x2_47) → k_78  h_47) ∧ ((¬ ((40 : Int) ≤ x2_47)) → ((x1_47 = 0) → k_78  h_47) ∧ ((¬ (x1_47 = 0)) → okA h_47 (s + 14) 3 ∧ ∃ b60 : Nat, hfR h_47 (s + 14) 5 = some b60 ∧ okA h_47 b60 4 ∧ ∃ b63 : Nat, hfR h_47 b60 0 = some b63 ∧ okI h_47 b63 (2 : Int) ∧ okA h_47 (s + 14) 3 ∧ w_X3_pairNearest zz (s + 14) (3 : Int) (haI h_47 b63 (2 : Int)) h_47 (fun (r68 : Int) (h68 : AH) => inR (x2_47 + 1) ∧ ∀ x2_72 : Int, x2_72 = (x2_47 + 1) → ∃ m, m < n_47 ∧ I_47 m r68 x2_72 h68))))) := by
    intro RM OM
    obtain ⟨J, hJ⟩ : ∃ J : Nat → Int → Int → AH → Prop, ∀ m x1 x2 h', J m x1 x2 h' ↔ ∃ k : Nat, k ≤ 40 ∧ m = 40 - k ∧ x2 = (k : Int) ∧ Fr h h' (s + 15) (s + 21) ∧ PR h' s (nrs (canP c0 c1 st 3 (st 2)) (dsL c0 c1 st) (Nc c0) (Nc c1) 3 (prM c0 c1 st) k) ∧ PO h' s (Nc c0) (Nc c1) (nrs (canP c0 c1 st 3 (st 2)) (dsL c0 c1 st) (Nc c0) (Nc c1) 3 (prM c0 c1 st) k) ∧ (x1 = 1 ∨ x1 = 0 ∧ scI (canP c0 c1 st 3 (st 2) (nrs (canP c0 c1 st 3 (st 2)) (dsL c0 c1 st) (Nc c0) (Nc c1) 3 (prM c0 c1 st) k)) (dsL c0 c1 st) (Nc c1) (Nc c0) = none) := ⟨_, fun _ _ _ _ => Iff.rfl⟩
    refine ⟨J, ⟨_, (hJ _ _ _ _).mpr ⟨0, by omega, rfl, rfl, F, RM, OM, .inl rfl⟩⟩, ?_⟩
    intro m x1 x2 g hi8
    obtain ⟨k, hk, rfl, rfl, F, R, O, hx⟩ := (hJ _ _ _ _).mp hi8
    have S3 := S.fr F (by omega)
    have P3 := P.fr F
    have S4 := S3
    have P4 := P3
    obtain ⟨⟨a0, a1, a2, a3, a4, a5, a6⟩, ⟨⟨b0, b1, b2, b3, b4, b5⟩, b6, b7, b8⟩, ⟨⟨d0, d1, d2, d3, d4, d5⟩, d6, d7, d8⟩, a9⟩ := S3
    obtain ⟨p0, p1, p2, p3, p4, p5, p6, q0, q1, q2, q3, q4, q5, q6⟩ := P3
    have z0 : haI g (s + 1) (2 : Int) = st 2 := a9 2 (by omega)
    simp only [okA, okI, jn_def, pair_ex, some_ex, forall_eq, a0, a1, a2, a3, a4, b0, b1, b2, b3, b4, b7, d0, d1, d2, d3, d4, d7, p0, p1, p2, p3, p4, p5, p6, q0, q1, q2, q3, q4, q5, q6, Nat.add_left_cancel_iff, Nat.reduceEqDiff, Nat.add_eq_left, Nat.left_eq_add, if_true, if_false, Nat.reduceAdd, true_and, and_true, Nat.one_ne_zero, Nat.succ_ne_self, z0, inR, and_assoc]
    have fin : (x1 = 0 ∧ scI (canP c0 c1 st 3 (st 2) (nrs (canP c0 c1 st 3 (st 2)) (dsL c0 c1 st) (Nc c0) (Nc c1) 3 (prM c0 c1 st) k)) (dsL c0 c1 st) (Nc c1) (Nc c0) = none) ∨ k = 40 → Q g := by
      rintro (⟨-, hz⟩ | rfl)
      · have := nrs_stay hz (40 - k)
        rw [show k + (40 - k) = 40 by omega] at this
        exact q g F (by unfold prA; rw [this]; exact R) (by unfold prA; rw [this]; exact O)
      · exact q g F R O
    refine ⟨fun hc => fin (.inr (by omega)), fun hc => ⟨fun hz => ?_, fun hz => ⟨by omega, by omega, ?_⟩⟩⟩
    · rcases hx with hx | hx
      · omega
      · exact fin (.inl hx)
    refine m_nearest (k := 3) S4 P4 R O (wA k) hg h0 h1 (by omega) (by have := hg.2.2.1; omega) (fun hnone => ?_) (fun x y g2 hsome F3 R3 O3 w3 => ?_)
    · refine ⟨by omega, by omega, 40 - (k + 1), by omega, (hJ _ _ _ _).mpr ⟨k + 1, by omega, rfl, by omega, F, ?_⟩⟩
      have e := nrs_stay hnone 1
      have e' : nrs (canP c0 c1 st 3 (st 2)) (dsL c0 c1 st) (Nc c0) (Nc c1) 3 (prM c0 c1 st) (k + 1) = nrs (canP c0 c1 st 3 (st 2)) (dsL c0 c1 st) (Nc c0) (Nc c1) 3 (prM c0 c1 st) k := e
      rw [e']
      exact ⟨R, O, .inr ⟨rfl, hnone⟩⟩
    · refine ⟨by omega, by omega, 40 - (k + 1), by omega, (hJ _ _ _ _).mpr ⟨k + 1, by omega, rfl, by omega, F.trans (F3.wide (by omega) (by omega)), ?_⟩⟩
      have e' : nrs (canP c0 c1 st 3 (st 2)) (dsL c0 c1 st) (Nc c0) (Nc c1) 3 (prM c0 c1 st) (k + 1) = pup (nrs (canP c0 c1 st 3 (st 2)) (dsL c0 c1 st) (Nc c0) (Nc c1) 3 (prM c0 c1 st) k) x y 3 := by
        show nr1 _ _ _ _ _ _ = _
        unfold nr1
        have hsome' : scI (canP c0 c1 st 3 (st 2) (nrs (canP c0 c1 st 3 (st 2)) (dsL c0 c1 st) (Nc c0) (Nc c1) 3 (prM c0 c1 st) k)) (dsL c0 c1 st) (Nc c1) (Nc c0) = some (x, y) := hsome
        rw [hsome']
      rw [e']
      exact ⟨R3, O3, .inl rfl⟩
  have S3 := S.fr F (by omega)
  have P3 := P.fr F
  have S4 := S3
  have P4 := P3
  obtain ⟨⟨a0, a1, a2, a3, a4, a5, a6⟩, ⟨⟨b0, b1, b2, b3, b4, b5⟩, b6, b7, b8⟩, ⟨⟨d0, d1, d2, d3, d4, d5⟩, d6, d7, d8⟩, a9⟩ := S3
  obtain ⟨p0, p1, p2, p3, p4, p5, p6, q0, q1, q2, q3, q4, q5, q6⟩ := P3
  have z0 : haI h' (s + 1) (1 : Int) = st 1 := a9 1 (by omega)
  rw [jn_def]
  have fin : (x1 = 0 ∧ scI (canP c0 c1 st 2 (st 1) (nrs (canP c0 c1 st 2 (st 1)) (dsL c0 c1 st) (Nc c0) (Nc c1) 2 (prC c0 c1) k)) (dsL c0 c1 st) (Nc c1) (Nc c0) = none) ∨ k = 40 → PR h' s (prM c0 c1 st) ∧ PO h' s (Nc c0) (Nc c1) (prM c0 c1 st) := by
    rintro (⟨-, hz⟩ | rfl)
    · have := nrs_stay hz (40 - k)
      rw [show k + (40 - k) = 40 by omega] at this
      unfold prM; rw [this]; exact ⟨R, O⟩
    · exact ⟨R, O⟩
  refine ⟨fun hc => ?_, fun hc => ⟨fun hz => ?_, fun hz => ?_⟩⟩
  · have := fin (.inr (by omega)); exact second this.1 this.2
  · rcases hx with hx | hx
    · omega
    · have := fin (.inl hx); exact second this.1 this.2
  clear second
  simp only [okA, okI, jn_def, pair_ex, some_ex, forall_eq, a0, a1, a2, a3, a4, b0, b1, b2, b3, b4, b7, d0, d1, d2, d3, d4, d7, p0, p1, p2, p3, p4, p5, p6, q0, q1, q2, q3, q4, q5, q6, Nat.add_left_cancel_iff, Nat.reduceEqDiff, Nat.add_eq_left, Nat.left_eq_add, if_true, if_false, Nat.reduceAdd, true_and, and_true, Nat.one_ne_zero, Nat.succ_ne_self, z0, inR, and_assoc]
  refine ⟨by omega, by omega, ?_⟩
  refine m_nearest (k := 2) S4 P4 R O (wM k) hg h0 h1 (by omega) (by have := hg.2.1; omega) (fun hnone => ?_) (fun x y g2 hsome F3 R3 O3 w3 => ?_)
  · refine ⟨by omega, by omega, 40 - (k + 1), by omega, (hI _ _ _ _).mpr ⟨k + 1, by omega, rfl, by omega, F, ?_⟩⟩
    have e := nrs_stay hnone 1
    have e' : nrs (canP c0 c1 st 2 (st 1)) (dsL c0 c1 st) (Nc c0) (Nc c1) 2 (prC c0 c1) (k + 1) = nrs (canP c0 c1 st 2 (st 1)) (dsL c0 c1 st) (Nc c0) (Nc c1) 2 (prC c0 c1) k := e
    rw [e']
    exact ⟨R, O, .inr ⟨rfl, hnone⟩⟩
  · refine ⟨by omega, by omega, 40 - (k + 1), by omega, (hI _ _ _ _).mpr ⟨k + 1, by omega, rfl, by omega, F.trans (F3.wide (by omega) (by omega)), ?_⟩⟩
    have e' : nrs (canP c0 c1 st 2 (st 1)) (dsL c0 c1 st) (Nc c0) (Nc c1) 2 (prC c0 c1) (k + 1) = pup (nrs (canP c0 c1 st 2 (st 1)) (dsL c0 c1 st) (Nc c0) (Nc c1) 2 (prC c0 c1) k) x y 2 := by
      show nr1 _ _ _ _ _ _ = _
      unfold nr1
      have hsome' : scI (canP c0 c1 st 2 (st 1) (nrs (canP c0 c1 st 2 (st 1)) (dsL c0 c1 st) (Nc c0) (Nc c1) 2 (prC c0 c1) k)) (dsL c0 c1 st) (Nc c1) (Nc c0) = some (x, y) := hsome
      rw [hsome']
    rw [e']
    exact ⟨R3, O3, .inl rfl⟩
