/-! THE PURE LAYER, 4: the class's pairs, at s + 14, of the state at s -/
def PK (h : AH) (s : Nat) : Prop := hkd h (s + 14) = (7, 0) ∧ hkd h (s + 15) = (1, 40) ∧ hkd h (s + 16) = (1, 40) ∧ hkd h (s + 17) = (1, 40) ∧ hkd h (s + 18) = (1, 40) ∧ hkd h (s + 19) = (1, 6) ∧ hkd h (s + 20) = (1, 1681) ∧ hfR h (s + 14) 0 = some (s + 15) ∧ hfR h (s + 14) 1 = some (s + 16) ∧ hfR h (s + 14) 2 = some (s + 17) ∧ hfR h (s + 14) 3 = some (s + 18) ∧ hfR h (s + 14) 4 = some (s + 19) ∧ hfR h (s + 14) 5 = some s ∧ hfR h (s + 14) 6 = some (s + 20)
theorem PK.fr {h h' : AH} {a b s : Nat} (T : PK h s) (F : Fr h h' a b) : PK h' s := by
  unfold PK at *; rw [F.kd, F.rf]; exact T
/-- what the arrays hold -/
def PR (h : AH) (s : Nat) (σ : PT) : Prop := ∀ k : Nat, k < 40 → haI h (s + 15) k = σ.1 k ∧ haI h (s + 16) k = σ.2.1 k ∧ haI h (s + 17) k = σ.2.2.1 k ∧ haI h (s + 18) k = σ.2.2.2 k
def PO (h : AH) (s n0 n1 : Nat) (σ : PT) : Prop := haI h (s + 19) 1 = (cK σ.2.2.1 n0 1 : Int) ∧ haI h (s + 19) 2 = (cK σ.2.2.1 n0 2 : Int) ∧ haI h (s + 19) 3 = (cK σ.2.2.1 n0 3 : Int) ∧ haI h (s + 19) 4 = (cK σ.2.2.1 n0 4 : Int) ∧ haI h (s + 19) 5 = (cK σ.2.2.2 n1 5 : Int)
theorem PR.fr {h h' : AH} {a b s : Nat} {σ : PT} (T : PR h s σ) (F : Fr h h' a b) (ht : s + 18 < a ∨ b ≤ s + 15) : PR h' s σ := by
  intro k hk
  rw [F.ai (by omega), F.ai (by omega), F.ai (by omega), F.ai (by omega)]; exact T k hk
theorem PO.fr {h h' : AH} {a b s n0 n1 : Nat} {σ : PT} (T : PO h s n0 n1 σ) (F : Fr h h' a b) (ht : s + 19 < a ∨ b ≤ s + 19) : PO h' s n0 n1 σ := by
  unfold PO at *; rw [F.ai (by omega)]; exact T
theorem ab1_fold {x : Int} : (if 0 ≤ x then x else 0 - x) = ab1 x := rfl
theorem m_dist {zz : Nat → Nat} {s t0 t1 i j : Nat} {h : AH} {Q : Int → AH → Prop} {c0 c1 st : Nat → Int} (S : St h s t0 t1 c0 c1 st) (P : PK h s) (hg : GS st) (hi : i < Nc c0) (hj : j < Nc c1) (h0 : Nc c0 ≤ 40) (h1 : Nc c1 ≤ 40) (q : Q (dsL c0 c1 st i j) h) : w_X3_distance zz (s + 14) i j h Q := by
  obtain ⟨⟨a0, a1, a2, a3, a4, a5, a6⟩, ⟨⟨b0, b1, b2, b3, b4, b5⟩, b6, b7, b8⟩, ⟨⟨d0, d1, d2, d3, d4, d5⟩, d6, d7, d8⟩, a9⟩ := S
  obtain ⟨p0, p1, p2, p3, p4, p5, p6, q0, q1, q2, q3, q4, q5, q6⟩ := P
  have z0 : haI h (s + 1) (0 : Int) = st 0 := a9 0 (by omega)
  have e0 := b8 i hi
  have e1 := d8 j hj
  have l0 := Lc_lt hi
  have l1 := Lc_lt hj
  have g0 := hg.1
  have v1 := ab1_bd (x := (Lc c0 i : Int) % 16 - (Lc c1 j : Int) % 16) (n := 15) (by omega) (by omega)
  have v2 := ab1_bd (x := (Lc c0 i : Int) / 16 - (Lc c1 j : Int) / 16) (n := 4) (by omega) (by omega)
  have v3 : 0 ≤ st 0 * ab1 ((Lc c0 i : Int) / 16 - (Lc c1 j : Int) / 16) := Int.mul_nonneg (by omega) v2.1
  have v4 : st 0 * ab1 ((Lc c0 i : Int) / 16 - (Lc c1 j : Int) / 16) ≤ 9 * 4 := Int.mul_le_mul (by omega) v2.2 v2.1 (by omega)
  unfold w_X3_distance
  simp only [txt0, txt1, w_X5_columnOf, w_X5_rowOf, hkd_sfI, hkd_sfR, hkd_sfL, hkd_saI, hkd_saR, hkd_saL, hkd_nGb, hlo_sfI, hlo_sfR, hlo_sfL, hlo_saI, hlo_saR, hlo_saL, hlo_nGb, hfR_sfI, hfR_sfL, hfR_saI, hfR_saR, hfR_saL, hfR_nGb, hfI_sfR, hfI_sfL, hfI_saI, hfI_saR, hfI_saL, hfI_nGb, haI_sfI, haI_sfR, haI_sfL, haI_saR, haI_saL, haI_nGb, haR_sfI, haR_sfR, haR_saI, haR_nGb, haL_sfI, haL_saI, hfL_sfI, hfL_saI, hfI_sfI, hfR_sfR, hfL_sfL, haI_saI, haR_saR, haL_saL, okA, okP, okI, okW, okJ, okV, okQ, okU, okC, jn_def, pair_ex, some_ex, forall_eq, a0, a1, a2, a3, a4, b0, b1, b2, b3, b4, b7, d0, d1, d2, d3, d4, d7, p0, p1, p2, p3, p4, p5, p6, q0, q1, q2, q3, q4, q5, q6, e0, e1, z0, ab1_fold, Nat.add_left_cancel_iff, Nat.reduceEqDiff, Nat.add_eq_left, Nat.left_eq_add, if_true, if_false, Nat.reduceAdd, true_and, and_true, Nat.one_ne_zero, Nat.succ_ne_self, inR, and_assoc]
  repeat' apply And.intro
  all_goals first | exact q | omega
def mbB (c0 c1 st : Nat → Int) (k : Int) (σ : PT) (i j : Nat) : Bool := decide (σ.1 i = -1) && decide (σ.2.1 j = -1) && (decide (k ≠ 2) || eqB c0 c1 i j) && (decide (st 3 = 0) || decide (Lc c0 i / 16 = Lc c1 j / 16))
theorem canP_mb {c0 c1 st : Nat → Int} {k reach : Int} {σ : PT} {i j : Nat} : canP c0 c1 st k reach σ i j = (mbB c0 c1 st k σ i j && decide (dsL c0 c1 st i j ≤ reach)) := rfl
theorem m_may {zz : Nat → Nat} {s t0 t1 i j : Nat} {k : Int} {h : AH} {Q : Int → AH → Prop} {c0 c1 st : Nat → Int} {σ : PT} (S : St h s t0 t1 c0 c1 st) (P : PK h s) (R : PR h s σ) (hi : i < Nc c0) (hj : j < Nc c1) (h0 : Nc c0 ≤ 40) (h1 : Nc c1 ≤ 40) (q : Q (if mbB c0 c1 st k σ i j = true then 1 else 0) h) : w_X3_mayBePaired zz (s + 14) i j k h Q := by
  obtain ⟨⟨a0, a1, a2, a3, a4, a5, a6⟩, ⟨⟨b0, b1, b2, b3, b4, b5⟩, b6, b7, b8⟩, ⟨⟨d0, d1, d2, d3, d4, d5⟩, d6, d7, d8⟩, a9⟩ := S
  obtain ⟨p0, p1, p2, p3, p4, p5, p6, q0, q1, q2, q3, q4, q5, q6⟩ := P
  have z0 : haI h (s + 1) (3 : Int) = st 3 := a9 3 (by omega)
  have e0 := b8 i hi
  have e1 := d8 j hj
  have l0 := Lc_lt hi
  have l1 := Lc_lt hj
  have r0 := (R i (by omega)).1
  have r1 := (R j (by omega)).2.1
  have f0 := b6 _ l0
  have f1 := d6 _ l1
  have x1 : (0 : Int) ≤ (i : Int) := by omega
  have x2 : (i : Int) < ((40 : Nat) : Int) := by omega
  have x3 : (0 : Int) ≤ (j : Int) := by omega
  have x4 : (j : Int) < ((40 : Nat) : Int) := by omega
  have x5 : (0 : Int) ≤ (Lc c0 i : Int) := by omega
  have x6 : (Lc c0 i : Int) < ((80 : Nat) : Int) := by omega
  have x7 : (0 : Int) ≤ (Lc c1 j : Int) := by omega
  have x8 : (Lc c1 j : Int) < ((80 : Nat) : Int) := by omega
  have y1 : (0 : Int) ≤ 3 := by omega
  have y2 : (3 : Int) < ((8 : Nat) : Int) := by omega
  have y3 : (0 : Int) < 16 := by omega
  have y4 : ((Lc c0 i : Int) / 16 = (Lc c1 j : Int) / 16) = (Lc c0 i / 16 = Lc c1 j / 16) := by
    apply propext; constructor <;> intro h <;> omega
  unfold w_X3_mayBePaired
  simp only [txt0, txt1, w_X5_codeOf, w_X5_rowOf, hkd_sfI, hkd_sfR, hkd_sfL, hkd_saI, hkd_saR, hkd_saL, hkd_nGb, hlo_sfI, hlo_sfR, hlo_sfL, hlo_saI, hlo_saR, hlo_saL, hlo_nGb, hfR_sfI, hfR_sfL, hfR_saI, hfR_saR, hfR_saL, hfR_nGb, hfI_sfR, hfI_sfL, hfI_saI, hfI_saR, hfI_saL, hfI_nGb, haI_sfI, haI_sfR, haI_sfL, haI_saR, haI_saL, haI_nGb, haR_sfI, haR_sfR, haR_saI, haR_nGb, haL_sfI, haL_saI, hfL_sfI, hfL_saI, hfI_sfI, hfR_sfR, hfL_sfL, haI_saI, haR_saR, haL_saL, okA, okP, okI, okW, okJ, okV, okQ, okU, okC, jn_def, pair_ex, some_ex, forall_eq, a0, a1, a2, a3, a4, b0, b1, b2, b3, b4, b7, d0, d1, d2, d3, d4, d7, p0, p1, p2, p3, p4, p5, p6, q0, q1, q2, q3, q4, q5, q6, e0, e1, z0, r0, r1, f0, f1, Nat.add_left_cancel_iff, Nat.reduceEqDiff, Nat.add_eq_left, Nat.left_eq_add, if_true, if_false, Nat.reduceAdd, true_and, and_true, Nat.one_ne_zero, Nat.succ_ne_self, x1, x2, x3, x4, x5, x6, x7, x8, y1, y2, y3, y4, Int.zero_ne_one, true_or, or_true]
  unfold mbB eqB at q
  by_cases u1 : σ.1 i = -1
  · by_cases u2 : σ.2.1 j = -1
    · by_cases u3 : k = 2 <;> by_cases u4 : c0 (Lc c0 i) = c1 (Lc c1 j) <;> by_cases u5 : st 3 = 0 <;> by_cases u6 : Lc c0 i / 16 = Lc c1 j / 16 <;> simp [u1, u2, u3, u4, u5, u6] at q ⊢ <;> exact q
    · simp [u1, u2] at q ⊢; exact q
  · simp [u1] at q ⊢; exact q
theorem PO.bd {h : AH} {s n0 n1 : Nat} {σ : PT} (R : PO h s n0 n1 σ) (k : Nat) (hk : 1 ≤ k ∧ k ≤ 5) : 0 ≤ haI h (s + 19) k ∧ haI h (s + 19) k ≤ (n0 + n1 : Nat) := by
  obtain ⟨o1, o2, o3, o4, o5⟩ := R
  have e1 := cK_le (f := σ.2.2.1) (n := n0) (v := 1)
  have e2 := cK_le (f := σ.2.2.1) (n := n0) (v := 2)
  have e3 := cK_le (f := σ.2.2.1) (n := n0) (v := 3)
  have e4 := cK_le (f := σ.2.2.1) (n := n0) (v := 4)
  have e5 := cK_le (f := σ.2.2.2) (n := n1) (v := 5)
  have : k = 1 ∨ k = 2 ∨ k = 3 ∨ k = 4 ∨ k = 5 := by omega
  rcases this with rfl | rfl | rfl | rfl | rfl
  · show 0 ≤ haI h (s + 19) 1 ∧ haI h (s + 19) 1 ≤ _; omega
  · show 0 ≤ haI h (s + 19) 2 ∧ haI h (s + 19) 2 ≤ _; omega
  · show 0 ≤ haI h (s + 19) 3 ∧ haI h (s + 19) 3 ≤ _; omega
  · show 0 ≤ haI h (s + 19) 4 ∧ haI h (s + 19) 4 ≤ _; omega
  · show 0 ≤ haI h (s + 19) 5 ∧ haI h (s + 19) 5 ≤ _; omega
theorem m_pair {zz : Nat → Nat} {s i j n0 n1 k : Nat} {h : AH} {Q : AH → Prop} {σ : PT} (P : PK h s) (lo : hlo h ≤ s) (R : PR h s σ) (O : PO h s n0 n1 σ) (w : pw n0 n1 σ) (hi : i < n0) (hj : j < n1) (h0 : n0 ≤ 40) (h1 : n1 ≤ 40) (f1 : σ.1 i = -1) (f2 : σ.2.1 j = -1) (hk : 1 ≤ k ∧ k ≤ 3) (q : ∀ h' : AH, Fr h h' (s + 15) (s + 20) → PR h' s (pup σ i j k) → PO h' s n0 n1 (pup σ i j k) → pw n0 n1 (pup σ i j k) → Q h') : w_X3_pair zz (s + 14) i j (k : Int) h Q := by
  obtain ⟨p0, p1, p2, p3, p4, p5, p6, q0, q1, q2, q3, q4, q5, q6⟩ := P
  have bk := O.bd k (by omega)
  have b4 := O.bd 4 (by omega)
  have b5 := O.bd 5 (by omega)
  have b4' : 0 ≤ haI h (s + 19) 4 ∧ haI h (s + 19) 4 ≤ (n0 + n1 : Nat) := b4
  have b5' : 0 ≤ haI h (s + 19) 5 ∧ haI h (s + 19) 5 ≤ (n0 + n1 : Nat) := b5
  unfold w_X3_pair
  simp only [hkd_sfI, hkd_sfR, hkd_sfL, hkd_saI, hkd_saR, hkd_saL, hkd_nGb, hlo_sfI, hlo_sfR, hlo_sfL, hlo_saI, hlo_saR, hlo_saL, hlo_nGb, hfR_sfI, hfR_sfL, hfR_saI, hfR_saR, hfR_saL, hfR_nGb, hfI_sfR, hfI_sfL, hfI_saI, hfI_saR, hfI_saL, hfI_nGb, haI_sfI, haI_sfR, haI_sfL, haI_saR, haI_saL, haI_nGb, haR_sfI, haR_sfR, haR_saI, haR_nGb, haL_sfI, haL_saI, hfL_sfI, hfL_saI, hfI_sfI, hfR_sfR, hfL_sfL, haI_saI, haR_saR, haL_saL, okA, okP, okI, okW, okJ, okV, okQ, okU, okC, jn_def, pair_ex, some_ex, forall_eq, p0, p1, p2, p3, p4, p5, p6, q0, q1, q2, q3, q4, q5, q6, Nat.add_left_cancel_iff, Nat.reduceEqDiff, Nat.add_eq_left, Nat.left_eq_add, if_true, if_false, Nat.reduceAdd, true_and, and_true, Nat.one_ne_zero, Nat.succ_ne_self, inR, u1_apply, and_assoc, show ¬ ((4 : Int) = (k : Int)) by omega, show ¬ ((5 : Int) = (k : Int)) by omega, show ¬ ((5 : Int) = 4) by omega]
  have k1 := (pw_free w hi).mp f1
  have k2 := pw_free2 w hj f2
  have w' := pw_up w hi hj f1 f2 (k := (k : Int)) (by omega)
  have F : ∀ a b c d e, Fr h (saI (saI (saI (saI (saI h (s + 15) a) (s + 16) b) (s + 17) c) (s + 18) d) (s + 19) e) (s + 15) (s + 20) := fun a b c d e => ((((Fr.sa (by omega) (by omega)).trans (Fr.sa (by omega) (by omega))).trans (Fr.sa (by omega) (by omega))).trans (Fr.sa (by omega) (by omega))).trans (Fr.sa (by omega) (by omega))
  have c1 : ∀ v : Int, (cK (un σ.2.2.1 i (k : Int)) n0 v : Int) = (cK σ.2.2.1 n0 v : Int) + (if (k : Int) = v then 1 else 0) - (if (4 : Int) = v then 1 else 0) := by
    intro v
    have := cK_un (f := σ.2.2.1) (v := v) (w := (k : Int)) hi
    rw [k1] at this
    split <;> split <;> simp_all <;> omega
  have c2 : (cK (un σ.2.2.2 j (k : Int)) n1 5 : Int) = (cK σ.2.2.2 n1 5 : Int) - 1 := by
    have := cK_un (f := σ.2.2.2) (v := 5) (w := (k : Int)) hj
    rw [k2, if_pos rfl, if_neg (by omega)] at this
    omega
  obtain ⟨o1, o2, o3, o4, o5⟩ := O
  repeat' apply And.intro
  all_goals first | omega | skip
  simp only [saI_saI]
  refine q _ (F _ _ _ _ _) (fun x hx => ?_) ?_ w'
  · obtain ⟨r1, r2, r3, r4⟩ := R x hx
    simp only [haI_saI, Nat.add_left_cancel_iff, Nat.reduceEqDiff, Nat.add_eq_left, Nat.left_eq_add, if_true, if_false, Nat.reduceAdd, true_and, and_true, Nat.one_ne_zero, Nat.succ_ne_self, u1_apply, r1, r2, r3, r4, pup, un]
    refine ⟨?_, ?_, ?_, ?_⟩ <;> (split <;> split <;> first | rfl | omega)
  · have hk3 : (k : Int) = 1 ∨ (k : Int) = 2 ∨ (k : Int) = 3 := by omega
    clear w' bk q
    generalize (k : Int) = K at hk3 c1 c2 ⊢
    rcases hk3 with rfl | rfl | rfl <;> (simp only [PO, haI_saI, Nat.add_left_cancel_iff, Nat.reduceEqDiff, Nat.add_eq_left, Nat.left_eq_add, if_true, if_false, Nat.reduceAdd, true_and, and_true, Nat.one_ne_zero, Nat.succ_ne_self, u1_apply, pup, c1, c2, o1, o2, o3, o4, o5]; (repeat' apply And.intro) <;> (try simp) <;> (try omega))
theorem m_unpair {zz : Nat → Nat} {s t0 t1 : Nat} {h : AH} {Q : AH → Prop} {c0 c1 st : Nat → Int} (S : St h s t0 t1 c0 c1 st) (P : PK h s) (q : ∀ h' : AH, Fr h h' (s + 15) (s + 20) → PR h' s pE → PO h' s (Nc c0) (Nc c1) pE → Q h') : w_X3_unpairAll zz (s + 14) h Q := by
  have S0 := S
  obtain ⟨⟨a0, a1, a2, a3, a4, a5, a6⟩, ⟨⟨b0, b1, b2, b3, b4, b5⟩, b6, b7, b8⟩, ⟨⟨d0, d1, d2, d3, d4, d5⟩, d6, d7, d8⟩, a9⟩ := S
  obtain ⟨p0, p1, p2, p3, p4, p5, p6, q0, q1, q2, q3, q4, q5, q6⟩ := P
  have lo := S0.1.2.2.2.2.2.1
  have ne0 : ∀ k, 14 ≤ k → ¬ (t0 = s + k) := by intro k hk; omega
  have ne1 : ∀ k, 14 ≤ k → ¬ (t1 = s + k) := by intro k hk; omega
  unfold w_X3_unpairAll
  refine ⟨by rw [okA_of p0], s + 15, q0, ?_⟩
  refine m_fill p1 (by omega) (by omega) ?_
  refine ⟨by rw [okA_of (show hkd (saI h _ _) (s + 14) = _ from p0)], s + 16, q1, ?_⟩
  refine m_fill p2 (by show hlo h ≤ _; omega) (by omega) ?_
  refine ⟨by rw [okA_of (show hkd (saI (saI h _ _) _ _) (s + 14) = _ from p0)], s + 17, q2, ?_⟩
  refine m_fill p3 (by show hlo h ≤ _; omega) (by omega) ?_
  refine ⟨by rw [okA_of (show hkd (saI (saI (saI h _ _) _ _) _ _) (s + 14) = _ from p0)], s + 18, q3, ?_⟩
  refine m_fill p4 (by show hlo h ≤ _; omega) (by omega) ?_
  refine ⟨by rw [okA_of (show hkd (saI (saI (saI (saI h _ _) _ _) _ _) _ _) (s + 14) = _ from p0)], s + 19, q4, ?_⟩
  refine m_fill p5 (by show hlo h ≤ _; omega) (by omega) ?_
  simp only [txt0, txt1, hkd_sfI, hkd_sfR, hkd_sfL, hkd_saI, hkd_saR, hkd_saL, hkd_nGb, hlo_sfI, hlo_sfR, hlo_sfL, hlo_saI, hlo_saR, hlo_saL, hlo_nGb, hfR_sfI, hfR_sfL, hfR_saI, hfR_saR, hfR_saL, hfR_nGb, hfI_sfR, hfI_sfL, hfI_saI, hfI_saR, hfI_saL, hfI_nGb, haI_sfI, haI_sfR, haI_sfL, haI_saR, haI_saL, haI_nGb, haR_sfI, haR_sfR, haR_saI, haR_nGb, haL_sfI, haL_saI, hfL_sfI, hfL_saI, hfI_sfI, hfR_sfR, hfL_sfL, haI_saI, haR_saR, haL_saL, okA, okP, okI, okW, okJ, okV, okQ, okU, okC, jn_def, pair_ex, some_ex, forall_eq, a0, a1, a2, a3, a4, b0, b1, b2, b3, b4, b7, d0, d1, d2, d3, d4, d7, p0, p1, p2, p3, p4, p5, p6, q0, q1, q2, q3, q4, q5, q6, Nat.add_left_cancel_iff, Nat.reduceEqDiff, Nat.add_eq_left, Nat.left_eq_add, if_true, if_false, Nat.reduceAdd, true_and, and_true, Nat.one_ne_zero, Nat.succ_ne_self, and_assoc]
  repeat' apply And.intro
  all_goals first | omega | skip
  simp only [saI_saI]
  refine q _ (((((Fr.sa (by omega) (by omega)).trans (Fr.sa (by omega) (by omega))).trans (Fr.sa (by omega) (by omega))).trans (Fr.sa (by omega) (by omega))).trans (Fr.sa (by omega) (by omega))) (fun x hx => ?_) ?_
  · simp only [haI_saI, Nat.add_left_cancel_iff, Nat.reduceEqDiff, Nat.add_eq_left, Nat.left_eq_add, if_true, if_false, Nat.reduceAdd, true_and, and_true, Nat.one_ne_zero, Nat.succ_ne_self, flA, pE]
    refine ⟨?_, ?_, ?_, ?_⟩ <;> rw [if_pos (by omega)]
  · have e1 : ∀ n v, v ≠ 4 → cK (fun _ => (4 : Int)) n v = 0 := by
      intro n v hv
      induction n with
      | zero => rfl
      | succ n ih => rw [cK_s, ih, if_neg (fun h => hv h.symm)]
    have e2 : ∀ n v, cK (fun _ => (v : Int)) n v = n := by
      intro n v
      induction n with
      | zero => rfl
      | succ n ih => rw [cK_s, ih, if_pos rfl]
    have z : cK (fun _ => (4 : Int)) (Nc c0) 1 = 0 := e1 _ _ (by omega)
    have z2 : cK (fun _ => (4 : Int)) (Nc c0) 2 = 0 := e1 _ _ (by omega)
    have z3 : cK (fun _ => (4 : Int)) (Nc c0) 3 = 0 := e1 _ _ (by omega)
    simp only [PO, haI_saI, Nat.add_left_cancel_iff, Nat.reduceEqDiff, Nat.add_eq_left, Nat.left_eq_add, if_true, if_false, Nat.reduceAdd, true_and, and_true, Nat.one_ne_zero, Nat.succ_ne_self, flA, pE, u1_apply, e2, z, z2, z3]
    (repeat' apply And.intro) <;> (try simp)
/-- the table of common sequences -/
def LT (h : AH) (s : Nat) (c0 c1 : Nat → Int) : Prop := ∀ i j : Nat, i ≤ Nc c0 → j ≤ Nc c1 → haI h (s + 20) (41 * i + j) = (lgT (eqB c0 c1) (Nc c0) (Nc c1) i j : Int)
def ltF (eq : Nat → Nat → Bool) (n0 n1 : Nat) (f : Int → Int) (r q : Nat) : Prop := ∀ i j : Nat, i ≤ n0 → j ≤ n1 → f (41 * i + j) = if n0 - i ≤ r ∨ n0 - i = r + 1 ∧ n1 - j ≤ q then (lgT eq n0 n1 i j : Int) else 0
theorem m_measure {zz : Nat → Nat} {s t0 t1 : Nat} {h : AH} {Q : AH → Prop} {c0 c1 st : Nat → Int} (S : St h s t0 t1 c0 c1 st) (P : PK h s) (h0 : Nc c0 ≤ 40) (h1 : Nc c1 ≤ 40) (q : ∀ h' : AH, Fr h h' (s + 20) (s + 21) → LT h' s c0 c1 → Q h') : w_X3_measureLongest zz (s + 14) h Q := by
  have S0 := S
  have P0 := P
  obtain ⟨⟨a0, a1, a2, a3, a4, a5, a6⟩, ⟨⟨b0, b1, b2, b3, b4, b5⟩, b6, b7, b8⟩, ⟨⟨d0, d1, d2, d3, d4, d5⟩, d6, d7, d8⟩, a9⟩ := S
  obtain ⟨p0, p1, p2, p3, p4, p5, p6, q0, q1, q2, q3, q4, q5, q6⟩ := P
  have lo := S0.1.2.2.2.2.2.1
  unfold w_X3_measureLongest
  simp only [txt0, txt1, okA, some_ex, a0, a1, a2, a3, a4, b0, b1, b2, b3, b4, b7, d0, d1, d2, d3, d4, d7, p0, p1, p2, p3, p4, p5, p6, q0, q1, q2, q3, q4, q5, q6, Nat.add_left_cancel_iff, Nat.reduceEqDiff, Nat.add_eq_left, Nat.left_eq_add, if_true, if_false, Nat.reduceAdd, true_and, and_true, Nat.one_ne_zero, Nat.succ_ne_self]
  refine m_fill p6 (by omega) (by omega) ?_
  have F0 : Fr h (saI h (s + 20) (flA 0 1681 (haI h (s + 20)))) (s + 20) (s + 21) := Fr.sa (by omega) (by omega)
  have L0 : ltF (eqB c0 c1) (Nc c0) (Nc c1) (haI (saI h (s + 20) (flA 0 1681 (haI h (s + 20)))) (s + 20)) 0 0 := by
    intro i j hi hj
    rw [haI_saI, if_pos rfl]; unfold flA
    rw [if_pos (by omega)]
    split
    next e =>
      rw [lgT_z (by omega)]; rfl
    next => rfl
  revert F0 L0
  generalize saI h (s + 20) (flA 0 1681 (haI h (s + 20))) = g
  intro F0 L0
  have Sg := S0.fr F0 (by omega)
  have b7' := Sg.2.1.2.2.1
  simp only [F0.kd, b0, b7', Nat.reduceAdd, forall_eq, inR]
  refine ⟨trivial, ⟨by omega, by omega⟩, ?_⟩
  obtain ⟨I, hI⟩ : ∃ I : Nat → Int → AH → Prop, ∀ m x h', I m x h' ↔ ∃ r : Nat, r ≤ Nc c0 ∧ m = Nc c0 - r ∧ x = (Nc c0 : Int) - 1 - (r : Int) ∧ Fr h h' (s + 20) (s + 21) ∧ ltF (eqB c0 c1) (Nc c0) (Nc c1) (haI h' (s + 20)) r 0 := ⟨_, fun _ _ _ => Iff.rfl⟩
  refine ⟨I, ⟨_, (hI _ _ _).mpr ⟨0, by omega, rfl, by omega, F0, L0⟩⟩, ?_⟩
  intro m x h' hi
  obtain ⟨r, hr, rfl, rfl, F, L⟩ := (hI _ _ _).mp hi
  refine ⟨fun hc9 => ?_, fun hc9 => ?_⟩
  · refine q h' F (fun i j hi hj => ?_)
    rw [L i j hi hj, if_pos (by omega)]
  have S2 := S0.fr F (by omega)
  have d7' := S2.2.2.1.2.2.1
  have d0' := S2.2.2.1.1.1
  simp only [d0', d7', forall_eq, inR, Nat.reduceAdd]
  refine ⟨trivial, ⟨by omega, by omega⟩, ?_⟩
  obtain ⟨J, hJ⟩ : ∃ J : Nat → Int → AH → Prop, ∀ m x h', J m x h' ↔ ∃ k : Nat, k ≤ Nc c1 ∧ m = Nc c1 - k ∧ x = (Nc c1 : Int) - 1 - (k : Int) ∧ Fr h h' (s + 20) (s + 21) ∧ ltF (eqB c0 c1) (Nc c0) (Nc c1) (haI h' (s + 20)) r k := ⟨_, fun _ _ _ => Iff.rfl⟩
  refine ⟨J, ⟨_, (hJ _ _ _).mpr ⟨0, by omega, rfl, by omega, F, L⟩⟩, ?_⟩
  intro m2 x2 h2 hi2
  obtain ⟨k, hk, rfl, rfl, F2, L2⟩ := (hJ _ _ _).mp hi2
  refine ⟨fun hc8 => ?_, fun hc8 => ?_⟩
  · refine ⟨⟨by omega, by omega⟩, Nc c0 - (r + 1), by omega, (hI _ _ _).mpr ⟨r + 1, by omega, rfl, by omega, F2, fun i j hi hj => ?_⟩⟩
    rw [L2 i j hi hj]
    have hkk : k = Nc c1 := by omega
    by_cases e5 : Nc c0 - i ≤ r + 1 ∨ Nc c0 - i = r + 1 + 1 ∧ Nc c1 - j ≤ 0
    · rw [if_pos e5]
      by_cases e6 : Nc c0 - i ≤ r ∨ Nc c0 - i = r + 1 ∧ Nc c1 - j ≤ k
      · rw [if_pos e6]
      · rw [if_neg e6, lgT_z (by omega)]; rfl
    · rw [if_neg e5, if_neg (by omega)]
  · obtain ⟨i, hi⟩ : ∃ i : Nat, i = Nc c0 - 1 - r := ⟨_, rfl⟩
    obtain ⟨j, hj⟩ : ∃ j : Nat, j = Nc c1 - 1 - k := ⟨_, rfl⟩
    have ei : (Nc c0 : Int) - 1 - (r : Int) = (i : Int) := by omega
    have ej : (Nc c1 : Int) - 1 - (k : Int) = (j : Int) := by omega
    have hi9 : i < Nc c0 := by omega
    have hj9 : j < Nc c1 := by omega
    rw [ei, ej]
    have S3 := S0.fr F2 (by omega)
    have P3 := P0.fr F2
    obtain ⟨⟨a0, a1, a2, a3, a4, a5, a6⟩, ⟨⟨b0, b1, b2, b3, b4, b5⟩, b6, b7, b8⟩, ⟨⟨d0, d1, d2, d3, d4, d5⟩, d6, d7, d8⟩, a9⟩ := S3
    obtain ⟨p0, p1, p2, p3, p4, p5, p6, q0, q1, q2, q3, q4, q5, q6⟩ := P3
    have e0 := b8 i hi9
    have e1 := d8 j hj9
    have l0 := Lc_lt hi9
    have l1 := Lc_lt hj9
    have f0 := b6 _ l0
    have f1 := d6 _ l1
    have t1' := L2 (i + 1) (j + 1) (by omega) (by omega)
    have t2' := L2 (i + 1) j (by omega) (by omega)
    have t3' := L2 i (j + 1) (by omega) (by omega)
    rw [if_pos (by omega)] at t1' t2' t3'
    rw [show 41 * ((i + 1 : Nat) : Int) + ((j + 1 : Nat) : Int) = (i : Int) * 41 + (j : Int) + 41 + 1 by omega] at t1'
    rw [show 41 * ((i + 1 : Nat) : Int) + (j : Int) = (i : Int) * 41 + (j : Int) + 41 by omega] at t2'
    rw [show 41 * (i : Int) + ((j + 1 : Nat) : Int) = (i : Int) * 41 + (j : Int) + 1 by omega] at t3'
    have bd1 := lgT_bd (eq := eqB c0 c1) (n0 := Nc c0) (n1 := Nc c1) (i := i + 1) (j := j + 1)
    have hs := lgT_s (eq := eqB c0 c1) hi9 hj9
    have fin : ∀ v : Int, v = (lgT (eqB c0 c1) (Nc c0) (Nc c1) i j : Int) → J (Nc c1 - (k + 1)) ((j : Int) + -1) (saI h2 (s + 20) (u1 (haI h2 (s + 20)) ((i : Int) * 41 + (j : Int)) v)) := by
      intro v hv
      refine (hJ _ _ _).mpr ⟨k + 1, by omega, rfl, by omega, F2.trans (Fr.sa (by omega) (by omega)), fun x y hx hy => ?_⟩
      rw [haI_saI, if_pos rfl, u1_apply]
      by_cases e : x = i ∧ y = j
      · rw [if_pos (by omega), if_pos (by omega), e.1, e.2]; exact hv
      · rw [if_neg (by omega), L2 x y hx hy]
        by_cases e6 : Nc c0 - x ≤ r ∨ Nc c0 - x = r + 1 ∧ Nc c1 - y ≤ k
        · rw [if_pos e6, if_pos (by omega)]
        · rw [if_neg e6, if_neg (by omega)]
    simp only [w_X5_codeOf, hkd_sfI, hkd_sfR, hkd_sfL, hkd_saI, hkd_saR, hkd_saL, hkd_nGb, hlo_sfI, hlo_sfR, hlo_sfL, hlo_saI, hlo_saR, hlo_saL, hlo_nGb, hfR_sfI, hfR_sfL, hfR_saI, hfR_saR, hfR_saL, hfR_nGb, hfI_sfR, hfI_sfL, hfI_saI, hfI_saR, hfI_saL, hfI_nGb, haI_sfI, haI_sfR, haI_sfL, haI_saR, haI_saL, haI_nGb, haR_sfI, haR_sfR, haR_saI, haR_nGb, haL_sfI, haL_saI, hfL_sfI, hfL_saI, hfI_sfI, hfR_sfR, hfL_sfL, haI_saI, haR_saR, haL_saL, okA, okP, okI, okW, okJ, okV, okQ, okU, okC, jn_def, pair_ex, some_ex, forall_eq, a0, a1, a2, a3, a4, b0, b1, b2, b3, b4, b7, d0, d1, d2, d3, d4, d7, p0, p1, p2, p3, p4, p5, p6, q0, q1, q2, q3, q4, q5, q6, Nat.add_left_cancel_iff, Nat.reduceEqDiff, Nat.add_eq_left, Nat.left_eq_add, if_true, if_false, Nat.reduceAdd, true_and, and_true, Nat.one_ne_zero, Nat.succ_ne_self, inR, and_assoc, e0, e1, f0, f1, t1', t2', t3']
    refine ⟨by omega, by omega, by omega, by omega, by omega, by omega, by omega, by omega, by omega, by omega, by omega, by omega, fun ne => ?_, fun e => ?_⟩
    · have hne : ¬ eqB c0 c1 i j = true := by unfold eqB; simpa using ne
      rw [if_neg hne] at hs
      refine ⟨by omega, by omega, by omega, by omega, by omega, by omega, by omega, by omega, by omega, by omega, by omega, by omega, by omega, Nc c1 - (k + 1), by omega, fin _ ?_⟩
      rw [hs]; split <;> omega
    · have he : eqB c0 c1 i j = true := by unfold eqB; simpa using e
      rw [if_pos he] at hs
      refine ⟨by omega, by omega, by omega, by omega, by omega, by omega, by omega, by omega, by omega, by omega, by omega, by omega, by omega, Nc c1 - (k + 1), by omega, fin _ ?_⟩
      rw [hs]; omega
