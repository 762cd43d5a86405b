/-! THE PURE LAYER, 23: likeness and its bits, by finite checks -/
def lkC (c n : Nat) : UInt64 := FP.ddiv (FP.i2d (Int32.ofInt (2 * (c : Int)))) (FP.i2d (Int32.ofInt (n : Int)))
def lkD (c : Nat) : UInt64 := FP.dmul (4611686018427387904 : UInt64) (FP.i2d (Int32.ofInt (c : Int)))
def nnB (r : UInt64) : Bool := decide (r &&& 0x7fffffffffffffff ≤ 0x7ff0000000000000)
theorem nnB_i {r : UInt64} : nnB r = true ↔ vf_n64 r := by unfold nnB vf_n64; exact decide_eq_true_iff
/-- what the class's own bits come to -/
def btF (x2 : UInt64) (x4 : Int64) : Option Int64 := if nnB (FP.dsub x2 FP.dconst1) && nnB (FP.dmul (FP.dsub x2 FP.dconst1) (4841369599423283200 : UInt64)) then some ((x4 <<< ((Int32.ofInt (52 : Int)).toInt64 &&& 63)) + (FP.d2l (FP.dmul (FP.dsub x2 FP.dconst1) (4841369599423283200 : UInt64)))) else none
def btL : Nat → UInt64 → Int64 → Option Int64
  | 0, _, _ => none
  | k + 1, x2, x4 => if 0 ≤ ((Op.cmpValue (FP.dcmp x2 FP.dconst1) CmpOp.g).toInt) then btF x2 x4 else if ((lg_cmp x4 (0 : Int64)).toInt) ≤ 0 then btF x2 x4 else if nnB (FP.dmul x2 (4611686018427387904 : UInt64)) then btL k (FP.dmul x2 (4611686018427387904 : UInt64)) (x4 - (1 : Int64)) else none
def btA (a : UInt64) : Option Int64 := if 0 < ((Op.cmpValue (FP.dcmp a FP.dconst0) CmpOp.g).toInt) then btL 8 a 1023 else some 0
def lkOk (c n : Nat) : Bool := nnB (lkC c n) && nnB (lkD c) && (FP.ddiv (lkD c) (FP.i2d (Int32.ofInt (n : Int))) == lkC c n) && (btA (lkC c n) == some ((lkC c n).toInt64)) && (FP.dcmp (lkC c n) (lkC c n) == some .eq)
def lkAll (n : Nat) : Bool := (List.range (n / 2 + 1)).all (fun c => lkOk c n)
theorem lk_a : (List.range 30).all (fun n => lkAll (n + 1)) = true := by decide +kernel
theorem lk_b : (List.range 20).all (fun n => lkAll (n + 31)) = true := by decide +kernel
theorem lk_c : (List.range 15).all (fun n => lkAll (n + 51)) = true := by decide +kernel
theorem lk_d : (List.range 15).all (fun n => lkAll (n + 66)) = true := by decide +kernel
theorem lk_e : btA FP.dconst1 = some (FP.dconst1).toInt64 := by decide +kernel
theorem lk_ok {c n : Nat} (h1 : 2 * c ≤ n) (h2 : n ≤ 80) (h0 : 0 < n) : lkOk c n = true := by
  have e : lkAll n = true := by
    by_cases a : n ≤ 30
    · have := List.all_eq_true.mp lk_a (n - 1) (List.mem_range.mpr (by omega))
      have e : n - 1 + 1 = n := by omega
      simp only [e] at this; exact this
    by_cases b : n ≤ 50
    · have := List.all_eq_true.mp lk_b (n - 31) (List.mem_range.mpr (by omega))
      have e : n - 31 + 31 = n := by omega
      simp only [e] at this; exact this
    by_cases d : n ≤ 65
    · have := List.all_eq_true.mp lk_c (n - 51) (List.mem_range.mpr (by omega))
      have e : n - 51 + 51 = n := by omega
      simp only [e] at this; exact this
    · have := List.all_eq_true.mp lk_d (n - 66) (List.mem_range.mpr (by omega))
      have e : n - 66 + 66 = n := by omega
      simp only [e] at this; exact this
  exact List.all_eq_true.mp e c (List.mem_range.mpr (by omega))
theorem lk_all {c n : Nat} (h1 : 2 * c ≤ n) (h2 : n ≤ 80) (h0 : 0 < n) : vf_n64 (lkC c n) ∧ vf_n64 (lkD c) ∧ FP.ddiv (lkD c) (FP.i2d (Int32.ofInt (n : Int))) = lkC c n ∧ btA (lkC c n) = some ((lkC c n).toInt64) ∧ FP.dcmp (lkC c n) (lkC c n) = some .eq := by
  have e := lk_ok h1 h2 h0
  unfold lkOk at e
  simp only [Bool.and_eq_true, beq_iff_eq] at e
  exact ⟨nnB_i.mp e.1.1.1.1, nnB_i.mp e.1.1.1.2, e.1.1.2, e.1.2, e.2⟩
theorem cK_inj {n : Nat} {v : Int} (hv : v ≠ 0) {p : Nat → Int} : ∀ (m : Nat) (f : Nat → Int), (∀ k, k < n → f k = v → ∃ j, j < m ∧ p j = (k : Int)) → cK f n v ≤ m := by
  intro m
  induction m with
  | zero =>
    intro f h
    rcases Nat.eq_zero_or_pos (cK f n v) with e | e
    · omega
    · obtain ⟨i, hi, e2⟩ := cK_pos.mp e
      obtain ⟨j, hj, -⟩ := h i hi e2
      omega
  | succ m ih =>
    intro f h
    by_cases e : ∃ k, k < n ∧ f k = v ∧ p m = (k : Int)
    · obtain ⟨k, hk, e1, e2⟩ := e
      have a := cK_un (f := f) (v := v) (w := 0) hk
      rw [if_pos e1, if_neg (fun h => hv h.symm)] at a
      have b := ih (un f k 0) (fun i hi e3 => by
        have e4 : i ≠ k := fun h => by rw [h, un_s] at e3; exact hv e3.symm
        rw [un_n e4] at e3
        obtain ⟨j, hj, e5⟩ := h i hi e3
        refine ⟨j, ?_, e5⟩
        have : j ≠ m := fun h => by rw [h, e2] at e5; omega
        omega)
      omega
    · have b := ih f (fun i hi e3 => by
        obtain ⟨j, hj, e5⟩ := h i hi e3
        refine ⟨j, ?_, e5⟩
        have : j ≠ m := fun h => e ⟨i, hi, e3, by rw [← h]; exact e5⟩
        omega)
      omega
theorem lk_bd {c0 c1 st : Nat → Int} : 2 * cK (kfA c0 c1 st) (Nc c0) 1 ≤ Nc c0 + Nc c1 := by
  have a := cK_le (f := kfA c0 c1 st) (n := Nc c0) (v := 1)
  have b := cK_inj (n := Nc c0) (v := 1) (p := psA c0 c1 st) (by omega) (Nc c1) (kfA c0 c1 st) (fun k hk e => by
    rcases pf_cases (st := st) (c1 := c1) hk with h | ⟨j, hj, -, h, -⟩
    · have := h.2; omega
    · exact ⟨j, hj, h⟩)
  omega
def likA (c0 c1 st : Nat → Int) : UInt64 := if Nc c0 + Nc c1 = 0 then FP.dconst1 else lkC (cK (kfA c0 c1 st) (Nc c0) 1) (Nc c0 + Nc c1)
theorem likA_bt {c0 c1 st : Nat → Int} (h0 : GC c0) (h1 : GC c1) : btA (likA c0 c1 st) = some (likA c0 c1 st).toInt64 := by
  unfold likA
  split
  · exact lk_e
  · exact (lk_all lk_bd (by have h2 : Nc c0 ≤ 40 := h0.2; have h3 : Nc c1 ≤ 40 := h1.2; omega) (by omega)).2.2.2.1
theorem c_likeness {zz : Nat → Nat} {x : Nat} {h : AH} {Q : UInt64 → AH → Prop} {D : DT} (C : CR h zz x D) (q : ∀ (F : Nat) (h' : AH), Ga h h' x (x + 113) → CF1 h' zz x D F → Q (likA D.1.1 D.1.2.1 D.1.2.2) h') : w_X6_likeness zz x h Q := by
  unfold w_X6_likeness
  refine ⟨by rw [okA_of C.1.1], m_refresh C (fun F g Gg Cg => ?_)⟩
  have q' := q F g Gg Cg
  obtain ⟨Cg, u0, u1, A⟩ := Cg
  have T := Cg.1
  have A0 := A
  obtain ⟨S, P, M, X, W, hg, hc0, hc1⟩ := A
  obtain ⟨o1, -⟩ := W.2.1
  have n0 : Nc D.1.1 ≤ 40 := hc0.2
  have n1 : Nc D.1.2.1 ≤ 40 := hc1.2
  have o1' : haI g (x + 20) 1 = (cK (kfA D.1.1 D.1.2.1 D.1.2.2) (Nc D.1.1) 1 : Int) := o1
  have bd := lk_bd (c0 := D.1.1) (c1 := D.1.2.1) (st := D.1.2.2)
  refine ⟨by rw [okA_of T.1], x + 1, T.2.1, by rw [okA_of S.1.1], m_text S.1 (.inl rfl) ?_⟩
  rw [if_pos rfl]
  refine ⟨by rw [okA_of S.2.1.1.1], by rw [okA_of T.1], x + 1, T.2.1, by rw [okA_of S.1.1], m_text S.1 (.inr rfl) ?_⟩
  rw [if_neg (by omega)]
  refine ⟨by rw [okA_of S.2.2.1.1.1], ?_⟩
  rw [S.2.1.2.2.1, S.2.2.1.2.2.1]
  refine ⟨by unfold inR; omega, ?_⟩
  intro y ey
  have ey2 : y = ((Nc D.1.1 + Nc D.1.2.1 : Nat) : Int) := by omega
  subst ey2
  unfold likA at q'
  refine ⟨fun hp => ?_, fun hp => ?_⟩
  · rw [if_neg (by omega)] at q'
    refine ⟨by rw [okA_of T.1], x + 9, T.2.2.1, by rw [okA_of X.1], x + 15, X.2.2.2.2.2.2.1, by rw [okA_of P.1], x + 20, P.2.2.2.2.2.2.2.2.2.2.2.1, ?_⟩
    rw [okI_of (show hkd g (x + 20) = _ from P.2.2.2.2.2.1), o1']
    refine ⟨⟨by omega, by omega⟩, by unfold inR; omega, (lk_all bd (by omega) (by omega)).1, q'⟩
  · rw [if_pos (by omega)] at q'
    exact q'
