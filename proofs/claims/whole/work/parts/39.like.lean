/-! THE PURE LAYER, 23: likeness and its bits, by finite checks -/
def lkC (c n : Nat) : UInt64 := FP.ddiv (FP.i2d (Int32.ofInt (2 * (c : Int)))) (FP.i2d (Int32.ofInt (n : Int)))
def lkD (c : Nat) : UInt64 := FP.dmul (4611686018427387904 : UInt64) (FP.i2d (Int32.ofInt (c : Int)))
def nnB (r : UInt64) : Bool := decide (r &&& 0x7fffffffffffffff ≤ 0x7ff0000000000000)
theorem nnB_i {r : UInt64} : nnB r = true ↔ vf_n64 r := by unfold nnB vf_n64; exact decide_eq_true_iff
/-- what the class's own bits come to -/
def btF (x2 : UInt64) (x4 : Int64) : Option Int64 := if nnB (FP.dsub x2 FP.dconst1) && nnB (FP.dmul (FP.dsub x2 FP.dconst1) (4841369599423283200 : UInt64)) then some ((x4 <<< ((Int32.ofInt (52 : Int)).toInt64 &&& 63)) + (FP.d2l (FP.dmul (FP.dsub x2 FP.dconst1) (4841369599423283200 : UInt64)))) else none
def btL : Nat → UInt64 → Int64 → Option Int64
  | 0, _, _ => none
  | k + 1, x2, x4 => if 0 ≤ ((Op.cmpValue (FP.dcmp x2 FP.dconst1) CmpOp.g).toInt) then btF x2 x4 else if ((lg_cmp x4 (0 : Int64)).toInt) ≤ 0 then btF x2 x4 else if nnB (FP.dmul x2 (4611686018427387904 : UInt64)) then btL k (FP.dmul x2 (4611686018427387904 : UInt64)) (x4 - (1 : Int64)) else none
def btA (a : UInt64) : Option Int64 := if 0 < ((Op.cmpValue (FP.dcmp a FP.dconst0) CmpOp.g).toInt) then btL 8 a 1023 else some 0
theorem m_bits {zz : Nat → Nat} {a : UInt64} {r : Int64} {h : AH} {Q : Int64 → AH → Prop} (e : btA a = some r) (q : Q r h) : w_X6_bits zz a h Q := by
  unfold w_X6_bits
  unfold btA at e
  refine ⟨fun h0 => ?_, fun h0 => ?_⟩
  · rw [if_pos h0] at e
    obtain ⟨I, hI⟩ : ∃ I : Nat → UInt64 → Int64 → AH → Prop, ∀ m x2 x4 h', I m x2 x4 h' ↔ btL m x2 x4 = some r ∧ h' = h := ⟨_, fun _ _ _ _ => Iff.rfl⟩
    refine ⟨I, ⟨8, (hI _ _ _ _).mpr ⟨e, rfl⟩⟩, ?_⟩
    intro m x2 x4 h' hi9
    obtain ⟨e1, rfl⟩ := (hI _ _ _ _).mp hi9
    have fin : btF x2 x4 = some r → vf_n64 (FP.dsub x2 FP.dconst1) ∧ vf_n64 (FP.dmul (FP.dsub x2 FP.dconst1) (4841369599423283200 : UInt64)) ∧ Q ((x4 <<< ((Int32.ofInt (52 : Int)).toInt64 &&& 63)) + (FP.d2l (FP.dmul (FP.dsub x2 FP.dconst1) (4841369599423283200 : UInt64)))) h' := by
      intro hf
      unfold btF at hf
      split at hf
      next hb =>
        simp only [Bool.and_eq_true] at hb
        cases hf
        exact ⟨nnB_i.mp hb.1, nnB_i.mp hb.2, q⟩
      next => cases hf
    cases m with
    | zero => cases e1
    | succ m =>
      have e1 : (if 0 ≤ ((Op.cmpValue (FP.dcmp x2 FP.dconst1) CmpOp.g).toInt) then btF x2 x4 else if ((lg_cmp x4 (0 : Int64)).toInt) ≤ 0 then btF x2 x4 else if nnB (FP.dmul x2 (4611686018427387904 : UInt64)) then btL m (FP.dmul x2 (4611686018427387904 : UInt64)) (x4 - (1 : Int64)) else none) = some r := e1
      rw [jn_def]
      refine ⟨fun h1 => ?_, fun h1 => ⟨fun h2 => ?_, fun h2 => ?_⟩⟩
      · rw [if_pos h1] at e1; exact fin e1
      · rw [if_neg h1, if_pos h2] at e1; exact fin e1
      · rw [if_neg h1, if_neg h2] at e1
        split at e1
        next h3 =>
          refine ⟨nnB_i.mp h3, ?_⟩
          intro y2 e2 y4 e4
          exact ⟨m, by omega, (hI _ _ _ _).mpr ⟨by rw [e2, e4]; exact e1, rfl⟩⟩
        next => cases e1
  · rw [if_neg h0] at e
    cases e; exact q
def lkOk (c n : Nat) : Bool := nnB (lkC c n) && nnB (lkD c) && (FP.ddiv (lkD c) (FP.i2d (Int32.ofInt (n : Int))) == lkC c n) && (btA (lkC c n) == some ((lkC c n).toInt64)) && (FP.dcmp (lkC c n) (lkC c n) == some .eq)
def lkAll (n : Nat) : Bool := (List.range (n / 2 + 1)).all (fun c => lkOk c n)
theorem lk_a : (List.range 10).all (fun n => lkAll (n + 1)) = true := by decide +kernel
