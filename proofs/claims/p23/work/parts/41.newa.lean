/-! THE PURE LAYER, 25: new objects -/
theorem hn_nAI {h : AH} {n : Nat} : hn (nAI h n) = hn h + 1 := rfl
theorem hn_nAL {h : AH} {n : Nat} : hn (nAL h n) = hn h + 1 := rfl
theorem hn_nAR {h : AH} {n : Nat} : hn (nAR h n) = hn h + 1 := rfl
theorem hn_nOb {h : AH} {n : Nat} : hn (nOb h n) = hn h + 1 := rfl
theorem hlo_nAI {h : AH} {n : Nat} : hlo (nAI h n) = hlo h := rfl
theorem hlo_nAL {h : AH} {n : Nat} : hlo (nAL h n) = hlo h := rfl
theorem hlo_nAR {h : AH} {n : Nat} : hlo (nAR h n) = hlo h := rfl
theorem hlo_nOb {h : AH} {n : Nat} : hlo (nOb h n) = hlo h := rfl
theorem hkd_nAI {h : AH} {n b : Nat} : hkd (nAI h n) b = if b = hn h then (1, n) else hkd h b := rfl
theorem hkd_nAL {h : AH} {n b : Nat} : hkd (nAL h n) b = if b = hn h then (2, n) else hkd h b := rfl
theorem hkd_nAR {h : AH} {n b : Nat} : hkd (nAR h n) b = if b = hn h then (3, n) else hkd h b := rfl
theorem hkd_nOb {h : AH} {n b : Nat} : hkd (nOb h n) b = if b = hn h then (n + 4, 0) else hkd h b := rfl
theorem hfR_nAI {h : AH} {n : Nat} : hfR (nAI h n) = hfR h := rfl
theorem hfR_nAL {h : AH} {n : Nat} : hfR (nAL h n) = hfR h := rfl
theorem hfR_nAR {h : AH} {n : Nat} : hfR (nAR h n) = hfR h := rfl
theorem hfR_nOb {h : AH} {n b : Nat} : hfR (nOb h n) b = if b = hn h then (fun _ => none) else hfR h b := rfl
theorem hfI_nAI {h : AH} {n : Nat} : hfI (nAI h n) = hfI h := rfl
theorem hfI_nAL {h : AH} {n : Nat} : hfI (nAL h n) = hfI h := rfl
theorem hfI_nAR {h : AH} {n : Nat} : hfI (nAR h n) = hfI h := rfl
theorem hfI_nOb {h : AH} {n b : Nat} : hfI (nOb h n) b = if b = hn h then (fun _ => 0) else hfI h b := rfl
theorem haI_nAI {h : AH} {n b : Nat} : haI (nAI h n) b = if b = hn h then (fun _ => 0) else haI h b := rfl
theorem haI_nAL {h : AH} {n : Nat} : haI (nAL h n) = haI h := rfl
theorem haI_nAR {h : AH} {n : Nat} : haI (nAR h n) = haI h := rfl
theorem haI_nOb {h : AH} {n : Nat} : haI (nOb h n) = haI h := rfl
/-- all that was there below a is as it was -/
def Ex (h h' : AH) (a : Nat) : Prop := hlo h' = hlo h ∧ hn h ≤ hn h' ∧ ∀ q, q < a → hkd h' q = hkd h q ∧ hfI h' q = hfI h q ∧ hfR h' q = hfR h q ∧ hfL h' q = hfL h q ∧ haI h' q = haI h q ∧ haR h' q = haR h q ∧ haL h' q = haL h q
theorem Ex.refl (h : AH) (a : Nat) : Ex h h a := ⟨rfl, Nat.le_refl _, fun _ _ => ⟨rfl, rfl, rfl, rfl, rfl, rfl, rfl⟩⟩
theorem Ex.trans {h h1 h2 : AH} {a b : Nat} (x : Ex h h1 a) (y : Ex h1 h2 b) (hab : a ≤ b) : Ex h h2 a := ⟨y.1.trans x.1, Nat.le_trans x.2.1 y.2.1, fun q hq => by
  obtain ⟨x1, x2, x3, x4, x5, x6, x7⟩ := x.2.2 q hq
  obtain ⟨y1, y2, y3, y4, y5, y6, y7⟩ := y.2.2 q (by omega)
  exact ⟨y1.trans x1, y2.trans x2, y3.trans x3, y4.trans x4, y5.trans x5, y6.trans x6, y7.trans x7⟩⟩
theorem Ex.wide {h h' : AH} {a b : Nat} (x : Ex h h' a) (hab : b ≤ a) : Ex h h' b := ⟨x.1, x.2.1, fun q hq => x.2.2 q (by omega)⟩
theorem Fr.ex {h h' : AH} {a b c : Nat} (x : Fr h h' a b) (h1 : c ≤ a) : Ex h h' c := ⟨x.lo, by rw [x.n]; exact Nat.le_refl _, fun q hq => ⟨by rw [x.kd], x.fi (by omega), by rw [x.rf], by rw [x.1.2.2.2.2.1], x.ai (by omega), by rw [x.ar], by rw [x.1.2.2.2.2.2]⟩⟩
theorem Ex.ai {h g : AH} {a n : Nat} (x : Ex h g a) (ha : a ≤ hn g) : Ex h (nAI g n) a := x.trans (b := a) ⟨rfl, by rw [hn_nAI]; omega, fun q hq => ⟨by rw [hkd_nAI, if_neg (by omega)], rfl, rfl, rfl, by rw [haI_nAI, if_neg (by omega)], rfl, rfl⟩⟩ (Nat.le_refl _)
theorem Ex.al {h g : AH} {a n : Nat} (x : Ex h g a) (ha : a ≤ hn g) : Ex h (nAL g n) a := x.trans (b := a) ⟨rfl, by rw [hn_nAL]; omega, fun q hq => ⟨by rw [hkd_nAL, if_neg (by omega)], rfl, rfl, rfl, rfl, rfl, u0_n (by omega)⟩⟩ (Nat.le_refl _)
theorem Ex.are {h g : AH} {a n : Nat} (x : Ex h g a) (ha : a ≤ hn g) : Ex h (nAR g n) a := x.trans (b := a) ⟨rfl, by rw [hn_nAR]; omega, fun q hq => ⟨by rw [hkd_nAR, if_neg (by omega)], rfl, rfl, rfl, rfl, u0_n (by omega), rfl⟩⟩ (Nat.le_refl _)
theorem Ex.ob {h g : AH} {a n : Nat} (x : Ex h g a) (ha : a ≤ hn g) : Ex h (nOb g n) a := x.trans (b := a) ⟨rfl, by rw [hn_nOb]; omega, fun q hq => ⟨by rw [hkd_nOb, if_neg (by omega)], u0_n (by omega), u0_n (by omega), u0_n (by omega), rfl, rfl, rfl⟩⟩ (Nat.le_refl _)
theorem Ex.sr {h g : AH} {a b k : Nat} {v : Option Nat} (x : Ex h g a) (ha : a ≤ b) : Ex h (sfR g b k v) a := x.trans (b := a) ⟨rfl, Nat.le_refl _, fun q hq => ⟨rfl, rfl, u0_n (by omega), rfl, rfl, rfl, rfl⟩⟩ (Nat.le_refl _)
theorem Ex.si {h g : AH} {a b k : Nat} {v : Int} (x : Ex h g a) (ha : a ≤ b) : Ex h (sfI g b k v) a := x.trans (b := a) ⟨rfl, Nat.le_refl _, fun q hq => ⟨rfl, u0_n (by omega), rfl, rfl, rfl, rfl, rfl⟩⟩ (Nat.le_refl _)
theorem Ex.sa {h g : AH} {a b : Nat} {v : Int → Int} (x : Ex h g a) (ha : a ≤ b) : Ex h (saI g b v) a := x.trans (b := a) ⟨rfl, Nat.le_refl _, fun q hq => ⟨rfl, rfl, rfl, rfl, by rw [haI_saI, if_neg (by omega)], rfl, rfl⟩⟩ (Nat.le_refl _)
theorem Ex.sar {h g : AH} {a b : Nat} {v : Int → Option Nat} (x : Ex h g a) (ha : a ≤ b) : Ex h (saR g b v) a := x.trans (b := a) ⟨rfl, Nat.le_refl _, fun q hq => ⟨rfl, rfl, rfl, rfl, rfl, by rw [haR_saR, if_neg (by omega)], rfl⟩⟩ (Nat.le_refl _)
/-- one cell as it was -/
def Ag (h h' : AH) (q : Nat) : Prop := hkd h' q = hkd h q ∧ hfI h' q = hfI h q ∧ hfR h' q = hfR h q ∧ haI h' q = haI h q
theorem Ex.ag {h h' : AH} {a q : Nat} (x : Ex h h' a) (hq : q < a) : Ag h h' q := by
  obtain ⟨x1, x2, x3, x4, x5, x6, x7⟩ := x.2.2 q hq
  exact ⟨x1, x2, x3, x5⟩
theorem SK.ag {h h' : AH} {s t0 t1 : Nat} (T : SK h s t0 t1) (lo : hlo h' = hlo h) (A : ∀ q, s ≤ q → q < s + 8 → Ag h h' q) : SK h' s t0 t1 := by
  unfold SK at *
  rw [(A s (by omega) (by omega)).1, (A s (by omega) (by omega)).2.2.1, (A (s + 1) (by omega) (by omega)).1, lo]; exact T
theorem Tk.ag {h h' : AH} {t : Nat} (T : Tk h t) (lo : hlo h' = hlo h) (A : ∀ q, t ≤ q → q < t + 3 → Ag h h' q) : Tk h' t := by
  unfold Tk at *
  rw [(A t (by omega) (by omega)).1, (A t (by omega) (by omega)).2.2.1, (A (t + 1) (by omega) (by omega)).1, (A (t + 2) (by omega) (by omega)).1, lo]; exact T
theorem Tx.ag {h h' : AH} {t : Nat} {c : Nat → Int} (T : Tx h t c) (lo : hlo h' = hlo h) (A : ∀ q, t ≤ q → q < t + 3 → Ag h h' q) : Tx h' t c := by
  obtain ⟨T1, T2, T3, T4⟩ := T
  exact ⟨T1.ag lo A, fun k hk => by rw [(A (t + 1) (by omega) (by omega)).2.2.2]; exact T2 k hk, by rw [(A t (by omega) (by omega)).2.1]; exact T3, fun k hk => by rw [(A (t + 2) (by omega) (by omega)).2.2.2]; exact T4 k hk⟩
theorem St.ag {h h' : AH} {s t0 t1 : Nat} {c0 c1 st : Nat → Int} (T : St h s t0 t1 c0 c1 st) (lo : hlo h' = hlo h) (A : ∀ q, s ≤ q → q < s + 8 → Ag h h' q) : St h' s t0 t1 c0 c1 st := by
  obtain ⟨T1, T2, T3, T4⟩ := T
  have hp := T1.2.2.2.2.2.2
  exact ⟨T1.ag lo A, T2.ag lo (fun q _ _ => A q (by omega) (by omega)), T3.ag lo (fun q _ _ => A q (by omega) (by omega)), fun k hk => by rw [(A (s + 1) (by omega) (by omega)).2.2.2]; exact T4 k hk⟩
theorem PK.ag {h h' : AH} {s : Nat} (T : PK h s) (A : ∀ q, s + 14 ≤ q → q < s + 21 → Ag h h' q) : PK h' s := by
  unfold PK at *
  rw [(A (s + 14) (by omega) (by omega)).1, (A (s + 14) (by omega) (by omega)).2.2.1, (A (s + 15) (by omega) (by omega)).1, (A (s + 16) (by omega) (by omega)).1, (A (s + 17) (by omega) (by omega)).1, (A (s + 18) (by omega) (by omega)).1, (A (s + 19) (by omega) (by omega)).1, (A (s + 20) (by omega) (by omega)).1]; exact T
theorem MvK.ag {h h' : AH} {s : Nat} (T : MvK h s) (A : ∀ q, s + 21 ≤ q → q < s + 30 → Ag h h' q) : MvK h' s := by
  unfold MvK at *
  rw [(A (s + 21) (by omega) (by omega)).1, (A (s + 21) (by omega) (by omega)).2.2.1, (A (s + 22) (by omega) (by omega)).1, (A (s + 23) (by omega) (by omega)).1, (A (s + 24) (by omega) (by omega)).1, (A (s + 25) (by omega) (by omega)).1, (A (s + 26) (by omega) (by omega)).1, (A (s + 27) (by omega) (by omega)).1, (A (s + 28) (by omega) (by omega)).1, (A (s + 29) (by omega) (by omega)).1]; exact T
theorem MoK.ag {h h' : AH} {s : Nat} (T : MoK h s) (A : ∀ q, s + 8 ≤ q → q < s + 14 → Ag h h' q) : MoK h' s := by
  unfold MoK at *
  rw [(A (s + 8) (by omega) (by omega)).1, (A (s + 8) (by omega) (by omega)).2.2.1, (A (s + 9) (by omega) (by omega)).1, (A (s + 10) (by omega) (by omega)).1, (A (s + 11) (by omega) (by omega)).1, (A (s + 12) (by omega) (by omega)).1, (A (s + 13) (by omega) (by omega)).1]; exact T
theorem BK.ag {h h' : AH} {b : Nat} (T : BK h b) (lo : hlo h' = hlo h) (A : ∀ q, b ≤ q → q < b + 3 → Ag h h' q) : BK h' b := by
  unfold BK at *
  rw [(A b (by omega) (by omega)).1, (A b (by omega) (by omega)).2.2.1, (A (b + 1) (by omega) (by omega)).1, (A (b + 2) (by omega) (by omega)).1, lo]; exact T
theorem Zs.ex {h h' : AH} {zz : Nat → Nat} {a : Nat} (Z : Zs h zz) (x : Ex h h' a) (ha : hlo h ≤ a) : Zs h' zz := by
  obtain ⟨Z1, Z2, Z3, Z4⟩ := Z
  have z : ∀ k, k < 3 → zz k < a := fun k hk => by have := (Z1 k hk).2; omega
  refine ⟨fun k hk => by rw [(x.ag (z k hk)).1, x.1]; exact Z1 k hk, fun k hk => ?_, fun k hk => ?_, fun k hk => ?_⟩
  · rw [(x.ag (z 0 (by omega))).2.2.2]; exact Z2 k hk
  · rw [(x.ag (z 1 (by omega))).2.2.2]; exact Z3 k hk
  · rw [(x.ag (z 2 (by omega))).2.2.2]; exact Z4 k hk
theorem n_buffer {zz : Nat → Nat} {b : Nat} {h : AH} {Q : AH → Prop} (hk : hkd h b = (4, 0)) (lo : hlo h ≤ b) (hm : hn h = b + 1) (q : ∀ h' : AH, Ex h h' b → hn h' = b + 3 → BK h' b → hfI h' b 2 = 0 → Q h') : w_X0_init zz b h Q := by
  unfold w_X0_init
  simp only [forall_eq, hn_nAI, hn_nOb, hn_nAR, hn_nAL, hn_sfI, hn_sfR, hn_saI, hn_saR, hlo_nAI, hlo_nOb, hlo_nAR, hlo_nAL, hkd_nAI, hkd_nOb, hkd_nAR, hkd_nAL, hfR_nAI, hfR_nOb, hfR_nAR, hfR_nAL, hfI_nAI, hfI_nOb, hfI_nAR, hfI_nAL, haI_nAI, haI_nOb, haI_nAR, haI_nAL, hm, okP, hkd_sfI, hkd_sfR, hkd_sfL, hkd_saI, hkd_saR, hkd_saL, hkd_nGb, hlo_sfI, hlo_sfR, hlo_sfL, hlo_saI, hlo_saR, hlo_saL, hlo_nGb, hfR_sfI, hfR_sfL, hfR_saI, hfR_saR, hfR_saL, hfR_nGb, hfI_sfR, hfI_sfL, hfI_saI, hfI_saR, hfI_saL, hfI_nGb, haI_sfI, haI_sfR, haI_sfL, haI_saR, haI_saL, haI_nGb, haR_sfI, haR_sfR, haR_saI, haR_nGb, haL_sfI, haL_saI, hfL_sfI, hfL_saI, hfI_sfI, hfR_sfR, hfL_sfL, haI_saI, haR_saR, haL_saL, hk, Nat.add_assoc, Nat.reduceAdd, Nat.add_left_cancel_iff, Nat.reduceEqDiff, Nat.add_eq_left, Nat.left_eq_add, if_true, if_false, true_and, and_true, Nat.one_ne_zero, Nat.succ_ne_self, ite_true, ite_false, reduceIte, Nat.zero_ne_one]
  refine ⟨lo, lo, lo, q _ ?_ ?_ ?_ ?_⟩
  · exact (((((Ex.refl h b).ai (by omega)).sr (by omega)).ai (by rw [hn_sfR, hn_nAI]; omega)).sr (by omega)).si (by omega)
  · simp only [hn_nAI, hn_nOb, hn_nAR, hn_nAL, hn_sfI, hn_sfR, hn_saI, hn_saR, hlo_nAI, hlo_nOb, hlo_nAR, hlo_nAL, hkd_nAI, hkd_nOb, hkd_nAR, hkd_nAL, hfR_nAI, hfR_nOb, hfR_nAR, hfR_nAL, hfI_nAI, hfI_nOb, hfI_nAR, hfI_nAL, haI_nAI, haI_nOb, haI_nAR, haI_nAL, hm, Nat.add_assoc, Nat.reduceAdd, Nat.add_left_cancel_iff, Nat.reduceEqDiff, Nat.add_eq_left, Nat.left_eq_add, if_true, if_false, true_and, and_true, Nat.one_ne_zero, Nat.succ_ne_self, ite_true, ite_false, reduceIte, Nat.zero_ne_one]
  · unfold BK
    simp only [hn_nAI, hn_nOb, hn_nAR, hn_nAL, hn_sfI, hn_sfR, hn_saI, hn_saR, hlo_nAI, hlo_nOb, hlo_nAR, hlo_nAL, hkd_nAI, hkd_nOb, hkd_nAR, hkd_nAL, hfR_nAI, hfR_nOb, hfR_nAR, hfR_nAL, hfI_nAI, hfI_nOb, hfI_nAR, hfI_nAL, haI_nAI, haI_nOb, haI_nAR, haI_nAL, hm, hkd_sfI, hkd_sfR, hkd_sfL, hkd_saI, hkd_saR, hkd_saL, hkd_nGb, hlo_sfI, hlo_sfR, hlo_sfL, hlo_saI, hlo_saR, hlo_saL, hlo_nGb, hfR_sfI, hfR_sfL, hfR_saI, hfR_saR, hfR_saL, hfR_nGb, hfI_sfR, hfI_sfL, hfI_saI, hfI_saR, hfI_saL, hfI_nGb, haI_sfI, haI_sfR, haI_sfL, haI_saR, haI_saL, haI_nGb, haR_sfI, haR_sfR, haR_saI, haR_nGb, haL_sfI, haL_saI, hfL_sfI, hfL_saI, hfI_sfI, hfR_sfR, hfL_sfL, haI_saI, haR_saR, haL_saL, hk, Nat.add_assoc, Nat.reduceAdd, Nat.add_left_cancel_iff, Nat.reduceEqDiff, Nat.add_eq_left, Nat.left_eq_add, if_true, if_false, true_and, and_true, Nat.one_ne_zero, Nat.succ_ne_self, ite_true, ite_false, reduceIte, Nat.zero_ne_one]; exact lo
  · simp only [hfI_sfI, if_true]
theorem n_text {zz : Nat → Nat} {t : Nat} {h : AH} {Q : AH → Prop} (hk : hkd h t = (9, 0)) (lo : hlo h ≤ t) (hm : hn h = t + 1) (q : ∀ h' : AH, Ex h h' t → hn h' = t + 3 → Tx h' t (fun _ => 32) → Q h') : w_X5_init zz t h Q := by
  unfold w_X5_init
  simp only [forall_eq, hn_nAI, hn_nOb, hn_nAR, hn_nAL, hn_sfI, hn_sfR, hn_saI, hn_saR, hlo_nAI, hlo_nOb, hlo_nAR, hlo_nAL, hkd_nAI, hkd_nOb, hkd_nAR, hkd_nAL, hfR_nAI, hfR_nOb, hfR_nAR, hfR_nAL, hfI_nAI, hfI_nOb, hfI_nAR, hfI_nAL, haI_nAI, haI_nOb, haI_nAR, haI_nAL, hm, okP, okA, hkd_sfI, hkd_sfR, hkd_sfL, hkd_saI, hkd_saR, hkd_saL, hkd_nGb, hlo_sfI, hlo_sfR, hlo_sfL, hlo_saI, hlo_saR, hlo_saL, hlo_nGb, hfR_sfI, hfR_sfL, hfR_saI, hfR_saR, hfR_saL, hfR_nGb, hfI_sfR, hfI_sfL, hfI_saI, hfI_saR, hfI_saL, hfI_nGb, haI_sfI, haI_sfR, haI_sfL, haI_saR, haI_saL, haI_nGb, haR_sfI, haR_sfR, haR_saI, haR_nGb, haL_sfI, haL_saI, hfL_sfI, hfL_saI, hfI_sfI, hfR_sfR, hfL_sfL, haI_saI, haR_saR, haL_saL, hk, Nat.add_assoc, Nat.reduceAdd, Nat.add_left_cancel_iff, Nat.reduceEqDiff, Nat.add_eq_left, Nat.left_eq_add, if_true, if_false, true_and, and_true, Nat.one_ne_zero, Nat.succ_ne_self, ite_true, ite_false, reduceIte, Nat.zero_ne_one, some_ex]
  refine ⟨lo, lo, lo, ?_⟩
  refine m_fill (n := 80) (by simp only [hn_nAI, hn_nOb, hn_nAR, hn_nAL, hn_sfI, hn_sfR, hn_saI, hn_saR, hlo_nAI, hlo_nOb, hlo_nAR, hlo_nAL, hkd_nAI, hkd_nOb, hkd_nAR, hkd_nAL, hfR_nAI, hfR_nOb, hfR_nAR, hfR_nAL, hfI_nAI, hfI_nOb, hfI_nAR, hfI_nAL, haI_nAI, haI_nOb, haI_nAR, haI_nAL, hm, hkd_sfI, hkd_sfR, hkd_sfL, hkd_saI, hkd_saR, hkd_saL, hkd_nGb, hlo_sfI, hlo_sfR, hlo_sfL, hlo_saI, hlo_saR, hlo_saL, hlo_nGb, hfR_sfI, hfR_sfL, hfR_saI, hfR_saR, hfR_saL, hfR_nGb, hfI_sfR, hfI_sfL, hfI_saI, hfI_saR, hfI_saL, hfI_nGb, haI_sfI, haI_sfR, haI_sfL, haI_saR, haI_saL, haI_nGb, haR_sfI, haR_sfR, haR_saI, haR_nGb, haL_sfI, haL_saI, hfL_sfI, hfL_saI, hfI_sfI, hfR_sfR, hfL_sfL, haI_saI, haR_saR, haL_saL, hk, Nat.add_assoc, Nat.reduceAdd, Nat.add_left_cancel_iff, Nat.reduceEqDiff, Nat.add_eq_left, Nat.left_eq_add, if_true, if_false, true_and, and_true, Nat.one_ne_zero, Nat.succ_ne_self, ite_true, ite_false, reduceIte, Nat.zero_ne_one]) (by show hlo h ≤ _; omega) (by omega) ?_
  have e : Nc (fun _ => 32) = 0 := cn_blank (fun _ _ => rfl)
  refine q _ ?_ ?_ ⟨?_, fun k hk => ?_, ?_, fun k hk => by rw [e] at hk; omega⟩
  · exact ((((((Ex.refl h t).ai (by omega)).sr (by omega)).ai (by rw [hn_sfR, hn_nAI]; omega)).sr (by omega)).si (by omega)).sa (by omega)
  · simp only [hn_nAI, hn_nOb, hn_nAR, hn_nAL, hn_sfI, hn_sfR, hn_saI, hn_saR, hlo_nAI, hlo_nOb, hlo_nAR, hlo_nAL, hkd_nAI, hkd_nOb, hkd_nAR, hkd_nAL, hfR_nAI, hfR_nOb, hfR_nAR, hfR_nAL, hfI_nAI, hfI_nOb, hfI_nAR, hfI_nAL, haI_nAI, haI_nOb, haI_nAR, haI_nAL, hm, Nat.add_assoc, Nat.reduceAdd, Nat.add_left_cancel_iff, Nat.reduceEqDiff, Nat.add_eq_left, Nat.left_eq_add, if_true, if_false, true_and, and_true, Nat.one_ne_zero, Nat.succ_ne_self, ite_true, ite_false, reduceIte, Nat.zero_ne_one]
  · unfold Tk
    simp only [hn_nAI, hn_nOb, hn_nAR, hn_nAL, hn_sfI, hn_sfR, hn_saI, hn_saR, hlo_nAI, hlo_nOb, hlo_nAR, hlo_nAL, hkd_nAI, hkd_nOb, hkd_nAR, hkd_nAL, hfR_nAI, hfR_nOb, hfR_nAR, hfR_nAL, hfI_nAI, hfI_nOb, hfI_nAR, hfI_nAL, haI_nAI, haI_nOb, haI_nAR, haI_nAL, hm, hkd_sfI, hkd_sfR, hkd_sfL, hkd_saI, hkd_saR, hkd_saL, hkd_nGb, hlo_sfI, hlo_sfR, hlo_sfL, hlo_saI, hlo_saR, hlo_saL, hlo_nGb, hfR_sfI, hfR_sfL, hfR_saI, hfR_saR, hfR_saL, hfR_nGb, hfI_sfR, hfI_sfL, hfI_saI, hfI_saR, hfI_saL, hfI_nGb, haI_sfI, haI_sfR, haI_sfL, haI_saR, haI_saL, haI_nGb, haR_sfI, haR_sfR, haR_saI, haR_nGb, haL_sfI, haL_saI, hfL_sfI, hfL_saI, hfI_sfI, hfR_sfR, hfL_sfL, haI_saI, haR_saR, haL_saL, hk, Nat.add_assoc, Nat.reduceAdd, Nat.add_left_cancel_iff, Nat.reduceEqDiff, Nat.add_eq_left, Nat.left_eq_add, if_true, if_false, true_and, and_true, Nat.one_ne_zero, Nat.succ_ne_self, ite_true, ite_false, reduceIte, Nat.zero_ne_one]; exact lo
  · rw [haI_saI, if_pos rfl]; unfold flA; rw [if_pos (by omega)]
  · rw [hfI_saI, hfI_sfI, if_pos rfl, if_pos rfl, e]; rfl
theorem n_pairs {zz : Nat → Nat} {s : Nat} {h : AH} {Q : AH → Prop} (hk : hkd h (s + 14) = (7, 0)) (lo : hlo h ≤ s + 14) (hm : hn h = s + 15) (q : ∀ h' : AH, Ex h h' (s + 14) → hn h' = s + 21 → PK h' s → Q h') : w_X3_init zz (s + 14) s h Q := by
  unfold w_X3_init
  simp only [forall_eq, hn_nAI, hn_nOb, hn_nAR, hn_nAL, hn_sfI, hn_sfR, hn_saI, hn_saR, hlo_nAI, hlo_nOb, hlo_nAR, hlo_nAL, hkd_nAI, hkd_nOb, hkd_nAR, hkd_nAL, hfR_nAI, hfR_nOb, hfR_nAR, hfR_nAL, hfI_nAI, hfI_nOb, hfI_nAR, hfI_nAL, haI_nAI, haI_nOb, haI_nAR, haI_nAL, hm, okP, hkd_sfI, hkd_sfR, hkd_sfL, hkd_saI, hkd_saR, hkd_saL, hkd_nGb, hlo_sfI, hlo_sfR, hlo_sfL, hlo_saI, hlo_saR, hlo_saL, hlo_nGb, hfR_sfI, hfR_sfL, hfR_saI, hfR_saR, hfR_saL, hfR_nGb, hfI_sfR, hfI_sfL, hfI_saI, hfI_saR, hfI_saL, hfI_nGb, haI_sfI, haI_sfR, haI_sfL, haI_saR, haI_saL, haI_nGb, haR_sfI, haR_sfR, haR_saI, haR_nGb, haL_sfI, haL_saI, hfL_sfI, hfL_saI, hfI_sfI, hfR_sfR, hfL_sfL, haI_saI, haR_saR, haL_saL, hk, Nat.add_assoc, Nat.reduceAdd, Nat.add_left_cancel_iff, Nat.reduceEqDiff, Nat.add_eq_left, Nat.left_eq_add, if_true, if_false, true_and, and_true, Nat.one_ne_zero, Nat.succ_ne_self, ite_true, ite_false, reduceIte, Nat.zero_ne_one]
  refine ⟨lo, lo, lo, lo, lo, lo, lo, q _ ?_ ?_ ?_⟩
  · (repeat (first | refine Ex.sr ?_ (by omega) | refine Ex.si ?_ (by omega) | refine Ex.ai ?_ (by simp only [hn_nAI, hn_nOb, hn_nAR, hn_nAL, hn_sfI, hn_sfR, hn_saI, hn_saR, hlo_nAI, hlo_nOb, hlo_nAR, hlo_nAL, hkd_nAI, hkd_nOb, hkd_nAR, hkd_nAL, hfR_nAI, hfR_nOb, hfR_nAR, hfR_nAL, hfI_nAI, hfI_nOb, hfI_nAR, hfI_nAL, haI_nAI, haI_nOb, haI_nAR, haI_nAL, hm, Nat.add_assoc, Nat.reduceAdd, Nat.add_left_cancel_iff, Nat.reduceEqDiff, Nat.add_eq_left, Nat.left_eq_add, if_true, if_false, true_and, and_true, Nat.one_ne_zero, Nat.succ_ne_self, ite_true, ite_false, reduceIte, Nat.zero_ne_one]; omega))); exact Ex.refl _ _
  · simp only [hn_nAI, hn_nOb, hn_nAR, hn_nAL, hn_sfI, hn_sfR, hn_saI, hn_saR, hlo_nAI, hlo_nOb, hlo_nAR, hlo_nAL, hkd_nAI, hkd_nOb, hkd_nAR, hkd_nAL, hfR_nAI, hfR_nOb, hfR_nAR, hfR_nAL, hfI_nAI, hfI_nOb, hfI_nAR, hfI_nAL, haI_nAI, haI_nOb, haI_nAR, haI_nAL, hm, Nat.add_assoc, Nat.reduceAdd, Nat.add_left_cancel_iff, Nat.reduceEqDiff, Nat.add_eq_left, Nat.left_eq_add, if_true, if_false, true_and, and_true, Nat.one_ne_zero, Nat.succ_ne_self, ite_true, ite_false, reduceIte, Nat.zero_ne_one]
  · unfold PK
    simp only [hn_nAI, hn_nOb, hn_nAR, hn_nAL, hn_sfI, hn_sfR, hn_saI, hn_saR, hlo_nAI, hlo_nOb, hlo_nAR, hlo_nAL, hkd_nAI, hkd_nOb, hkd_nAR, hkd_nAL, hfR_nAI, hfR_nOb, hfR_nAR, hfR_nAL, hfI_nAI, hfI_nOb, hfI_nAR, hfI_nAL, haI_nAI, haI_nOb, haI_nAR, haI_nAL, hm, hkd_sfI, hkd_sfR, hkd_sfL, hkd_saI, hkd_saR, hkd_saL, hkd_nGb, hlo_sfI, hlo_sfR, hlo_sfL, hlo_saI, hlo_saR, hlo_saL, hlo_nGb, hfR_sfI, hfR_sfL, hfR_saI, hfR_saR, hfR_saL, hfR_nGb, hfI_sfR, hfI_sfL, hfI_saI, hfI_saR, hfI_saL, hfI_nGb, haI_sfI, haI_sfR, haI_sfL, haI_saR, haI_saL, haI_nGb, haR_sfI, haR_sfR, haR_saI, haR_nGb, haL_sfI, haL_saI, hfL_sfI, hfL_saI, hfI_sfI, hfR_sfR, hfL_sfL, haI_saI, haR_saR, haL_saL, hk, Nat.add_assoc, Nat.reduceAdd, Nat.add_left_cancel_iff, Nat.reduceEqDiff, Nat.add_eq_left, Nat.left_eq_add, if_true, if_false, true_and, and_true, Nat.one_ne_zero, Nat.succ_ne_self, ite_true, ite_false, reduceIte, Nat.zero_ne_one]
theorem n_motion {zz : Nat → Nat} {s : Nat} {h : AH} {Q : AH → Prop} (hk : hkd h (s + 21) = (6, 0)) (lo : hlo h ≤ s + 21) (hm : hn h = s + 22) (q : ∀ h' : AH, Ex h h' (s + 21) → hn h' = s + 30 → MvK h' s → Q h') : w_X2_init zz (s + 21) s (s + 14) h Q := by
  unfold w_X2_init
  simp only [forall_eq, hn_nAI, hn_nOb, hn_nAR, hn_nAL, hn_sfI, hn_sfR, hn_saI, hn_saR, hlo_nAI, hlo_nOb, hlo_nAR, hlo_nAL, hkd_nAI, hkd_nOb, hkd_nAR, hkd_nAL, hfR_nAI, hfR_nOb, hfR_nAR, hfR_nAL, hfI_nAI, hfI_nOb, hfI_nAR, hfI_nAL, haI_nAI, haI_nOb, haI_nAR, haI_nAL, hm, okP, hkd_sfI, hkd_sfR, hkd_sfL, hkd_saI, hkd_saR, hkd_saL, hkd_nGb, hlo_sfI, hlo_sfR, hlo_sfL, hlo_saI, hlo_saR, hlo_saL, hlo_nGb, hfR_sfI, hfR_sfL, hfR_saI, hfR_saR, hfR_saL, hfR_nGb, hfI_sfR, hfI_sfL, hfI_saI, hfI_saR, hfI_saL, hfI_nGb, haI_sfI, haI_sfR, haI_sfL, haI_saR, haI_saL, haI_nGb, haR_sfI, haR_sfR, haR_saI, haR_nGb, haL_sfI, haL_saI, hfL_sfI, hfL_saI, hfI_sfI, hfR_sfR, hfL_sfL, haI_saI, haR_saR, haL_saL, hk, Nat.add_assoc, Nat.reduceAdd, Nat.add_left_cancel_iff, Nat.reduceEqDiff, Nat.add_eq_left, Nat.left_eq_add, if_true, if_false, true_and, and_true, Nat.one_ne_zero, Nat.succ_ne_self, ite_true, ite_false, reduceIte, Nat.zero_ne_one]
  refine ⟨lo, lo, lo, lo, lo, lo, lo, lo, lo, lo, lo, lo, lo, q _ ?_ ?_ ?_⟩
  · (repeat (first | refine Ex.sr ?_ (by omega) | refine Ex.si ?_ (by omega) | refine Ex.ai ?_ (by simp only [hn_nAI, hn_nOb, hn_nAR, hn_nAL, hn_sfI, hn_sfR, hn_saI, hn_saR, hlo_nAI, hlo_nOb, hlo_nAR, hlo_nAL, hkd_nAI, hkd_nOb, hkd_nAR, hkd_nAL, hfR_nAI, hfR_nOb, hfR_nAR, hfR_nAL, hfI_nAI, hfI_nOb, hfI_nAR, hfI_nAL, haI_nAI, haI_nOb, haI_nAR, haI_nAL, hm, Nat.add_assoc, Nat.reduceAdd, Nat.add_left_cancel_iff, Nat.reduceEqDiff, Nat.add_eq_left, Nat.left_eq_add, if_true, if_false, true_and, and_true, Nat.one_ne_zero, Nat.succ_ne_self, ite_true, ite_false, reduceIte, Nat.zero_ne_one]; omega))); exact Ex.refl _ _
  · simp only [hn_nAI, hn_nOb, hn_nAR, hn_nAL, hn_sfI, hn_sfR, hn_saI, hn_saR, hlo_nAI, hlo_nOb, hlo_nAR, hlo_nAL, hkd_nAI, hkd_nOb, hkd_nAR, hkd_nAL, hfR_nAI, hfR_nOb, hfR_nAR, hfR_nAL, hfI_nAI, hfI_nOb, hfI_nAR, hfI_nAL, haI_nAI, haI_nOb, haI_nAR, haI_nAL, hm, Nat.add_assoc, Nat.reduceAdd, Nat.add_left_cancel_iff, Nat.reduceEqDiff, Nat.add_eq_left, Nat.left_eq_add, if_true, if_false, true_and, and_true, Nat.one_ne_zero, Nat.succ_ne_self, ite_true, ite_false, reduceIte, Nat.zero_ne_one]
  · unfold MvK
    simp only [hn_nAI, hn_nOb, hn_nAR, hn_nAL, hn_sfI, hn_sfR, hn_saI, hn_saR, hlo_nAI, hlo_nOb, hlo_nAR, hlo_nAL, hkd_nAI, hkd_nOb, hkd_nAR, hkd_nAL, hfR_nAI, hfR_nOb, hfR_nAR, hfR_nAL, hfI_nAI, hfI_nOb, hfI_nAR, hfI_nAL, haI_nAI, haI_nOb, haI_nAR, haI_nAL, hm, hkd_sfI, hkd_sfR, hkd_sfL, hkd_saI, hkd_saR, hkd_saL, hkd_nGb, hlo_sfI, hlo_sfR, hlo_sfL, hlo_saI, hlo_saR, hlo_saL, hlo_nGb, hfR_sfI, hfR_sfL, hfR_saI, hfR_saR, hfR_saL, hfR_nGb, hfI_sfR, hfI_sfL, hfI_saI, hfI_saR, hfI_saL, hfI_nGb, haI_sfI, haI_sfR, haI_sfL, haI_saR, haI_saL, haI_nGb, haR_sfI, haR_sfR, haR_saI, haR_nGb, haL_sfI, haL_saI, hfL_sfI, hfL_saI, hfI_sfI, hfR_sfR, hfL_sfL, haI_saI, haR_saR, haL_saL, hk, Nat.add_assoc, Nat.reduceAdd, Nat.add_left_cancel_iff, Nat.reduceEqDiff, Nat.add_eq_left, Nat.left_eq_add, if_true, if_false, true_and, and_true, Nat.one_ne_zero, Nat.succ_ne_self, ite_true, ite_false, reduceIte, Nat.zero_ne_one]
