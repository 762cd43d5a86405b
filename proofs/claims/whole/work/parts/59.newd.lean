/-! THE PURE LAYER, 43: new objects, four: the model -/
def Bm (h g : AH) (y n : Nat) : Prop := hn g = y + 1 + n ∧ hkd g y = (11, 0) ∧ Ex h g y ∧ hfI g y 2 = 0 ∧ hfI g y 4 = 0
theorem ok_ai {h g g1 : AH} {y n s : Nat} (B : Bm h g y n) (lo : hlo h ≤ y) (e1 : g1 = nAI g s) : okP g1 y 7 := by
  obtain ⟨b1, b2, b3, b4, b5⟩ := B
  have : hkd g1 y = (11, 0) := by rw [e1, hkd_nAI, if_neg (by omega)]; exact b2
  rw [okP_of this, e1]
  exact ⟨rfl, by show hlo g ≤ y; rw [b3.1]; exact lo⟩
theorem st_ai {h g g1 g2 : AH} {y n s k : Nat} (B : Bm h g y n) (e1 : g1 = nAI g s) (e2 : g2 = sfR g1 y k (some (hn g))) : Bm h g2 y (n + 1) ∧ (∀ q, hkd g2 q = if q = y + 1 + n then (1, s) else hkd g q) ∧ ∀ j, hfR g2 y j = if j = k then some (y + 1 + n) else hfR g y j := by
  obtain ⟨b1, b2, b3, b4, b5⟩ := B
  refine ⟨⟨?_, ?_, ?_, ?_, ?_⟩, fun q => ?_, fun j => ?_⟩
  · rw [e2, hn_sfR, e1, hn_nAI]; omega
  · rw [e2, hkd_sfR, e1, hkd_nAI, if_neg (by omega)]; exact b2
  · rw [e2, e1]; exact (b3.ai (by omega)).sr (Nat.le_refl _)
  · rw [e2, hfI_sfR, e1, hfI_nAI]; exact b4
  · rw [e2, hfI_sfR, e1, hfI_nAI]; exact b5
  · rw [e2, hkd_sfR, e1, hkd_nAI, b1]
  · rw [e2, hfR_sfR, if_pos rfl, e1, hfR_nAI, b1]
set_option maxHeartbeats 2000000 in
theorem n_model {zz : Nat → Nat} {y : Nat} {h : AH} {Q : AH → Prop} (hk : hkd h y = (11, 0)) (lo : hlo h ≤ y) (hm : hn h = y + 1) (i2 : hfI h y 2 = 0) (i4 : hfI h y 4 = 0) (q : ∀ h' : AH, Ex h h' y → hn h' = y + 17 → MRl h' y D00 → Q h') : w_X7_init zz y h Q := by
  unfold w_X7_init
  have B0 : Bm h h y 0 := ⟨hm, hk, Ex.refl _ _, i2, i4⟩
  refine fun a1 e1 => ⟨ok_ai B0 lo e1, fun g1 f1 => ?_⟩
  obtain ⟨B1, k1, r1⟩ := st_ai B0 e1 f1
  refine fun a2 e2 => ⟨ok_ai B1 lo e2, fun g2 f2 => ?_⟩
  obtain ⟨B2, k2, r2⟩ := st_ai B1 e2 f2
  refine fun a3 e3 => ⟨ok_ai B2 lo e3, fun g3 f3 => ?_⟩
  obtain ⟨B3, k3, r3⟩ := st_ai B2 e3 f3
  refine fun a4 e4 => ⟨ok_ai B3 lo e4, fun g4 f4 => ?_⟩
  obtain ⟨B4, k4, r4⟩ := st_ai B3 e4 f4
  refine fun a5 e5 => ⟨ok_ai B4 lo e5, fun g5 f5 => ?_⟩
  obtain ⟨B5, k5, r5⟩ := st_ai B4 e5 f5
  refine fun a6 e6 => ⟨ok_ai B5 lo e6, fun g6 f6 => ?_⟩
  obtain ⟨B6, k6, r6⟩ := st_ai B5 e6 f6
  refine fun a7 e7 => ⟨ok_ai B6 lo e7, fun g7 f7 => ?_⟩
  obtain ⟨B7, k7, r7⟩ := st_ai B6 e7 f7
  refine fun a8 e8 => ⟨ok_ai B7 lo e8, fun g8 f8 => ?_⟩
  obtain ⟨B8, k8, r8⟩ := st_ai B7 e8 f8
  refine fun a9 e9 => ⟨ok_ai B8 lo e9, fun g9 f9 => ?_⟩
  obtain ⟨B9, k9, r9⟩ := st_ai B8 e9 f9
  refine fun a10 e10 => ⟨ok_ai B9 lo e10, fun g10 f10 => ?_⟩
  obtain ⟨B10, k10, r10⟩ := st_ai B9 e10 f10
  refine fun a11 e11 => ⟨ok_ai B10 lo e11, fun g11 f11 => ?_⟩
  obtain ⟨B11, k11, r11⟩ := st_ai B10 e11 f11
  refine fun a12 e12 => ⟨ok_ai B11 lo e12, fun g12 f12 => ?_⟩
  obtain ⟨B12, k12, r12⟩ := st_ai B11 e12 f12
  refine fun a13 e13 => ⟨ok_ai B12 lo e13, fun g13 f13 => ?_⟩
  obtain ⟨B13, k13, r13⟩ := st_ai B12 e13 f13
  refine fun a14 e14 => ⟨ok_ai B13 lo e14, fun g14 f14 => ?_⟩
  obtain ⟨B14, k14, r14⟩ := st_ai B13 e14 f14
  refine fun a15 e15 => ⟨ok_ai B14 lo e15, fun g15 f15 => ?_⟩
  obtain ⟨B15, k15, r15⟩ := st_ai B14 e15 f15
  refine fun a16 e16 => ⟨ok_ai B15 lo e16, fun g16 f16 => ?_⟩
  obtain ⟨B16, k16, r16⟩ := st_ai B15 e16 f16
  obtain ⟨b1, b2, b3, b4, b5⟩ := B16
  have K : MdK g16 y := by
    refine ⟨b2, by rw [b3.1]; exact lo, ?_, ?_⟩
    · simp only [k16, k15, k14, k13, k12, k11, k10, k9, k8, k7, k6, k5, k4, k3, k2, k1, Nat.add_assoc, Nat.reduceAdd, Nat.add_left_cancel_iff, Nat.reduceEqDiff, Nat.add_eq_left, Nat.left_eq_add, if_true, if_false, true_and, and_true, Nat.one_ne_zero, Nat.succ_ne_self, ite_true, ite_false, reduceIte, Nat.zero_ne_one]
    · simp only [r16, r15, r14, r13, r12, r11, r10, r9, r8, r7, r6, r5, r4, r3, r2, r1, Nat.add_assoc, Nat.reduceAdd, Nat.add_left_cancel_iff, Nat.reduceEqDiff, Nat.add_eq_left, Nat.left_eq_add, if_true, if_false, true_and, and_true, Nat.one_ne_zero, Nat.succ_ne_self, ite_true, ite_false, reduceIte, Nat.zero_ne_one]
  refine ⟨by rw [okA_of b2], d_fresh K (fun g F Zg => ?_)⟩
  refine q g (b3.trans (F.ex (by omega)) (Nat.le_refl _)) (by rw [F.n, b1]) ⟨K.fr F, Zg, GD_0, ?_, by show 0 ≤ 6; omega, fun i k hi => absurd hi (Nat.not_lt_zero i), fun i hi => absurd hi (Nat.not_lt_zero i), ?_, by show 0 ≤ 60; omega, fun k hk => absurd hk (Nat.not_lt_zero k)⟩
  · rw [F.fi (by omega)]; exact b4
  · rw [F.fi (by omega)]; exact b5
