def okA (h : AH) (a c : Nat) : Prop := (hkd h a).1 = c + 4
def okP (h : AH) (a c : Nat) : Prop := (hkd h a).1 = c + 4 ∧ hlo h ≤ a
def okI (h : AH) (a : Nat) (i : Int) : Prop := ∃ n : Nat, hkd h a = (1, n) ∧ 0 ≤ i ∧ i < (n : Int)
def okJ (h : AH) (a : Nat) (i : Int) : Prop := ∃ n : Nat, hkd h a = (2, n) ∧ 0 ≤ i ∧ i < (n : Int)
def okQ (h : AH) (a : Nat) (i : Int) : Prop := ∃ n : Nat, hkd h a = (3, n) ∧ 0 ≤ i ∧ i < (n : Int)
def okW (h : AH) (a : Nat) (i : Int) : Prop := ∃ n : Nat, hkd h a = (1, n) ∧ 0 ≤ i ∧ i < (n : Int) ∧ hlo h ≤ a
def okV (h : AH) (a : Nat) (i : Int) : Prop := ∃ n : Nat, hkd h a = (2, n) ∧ 0 ≤ i ∧ i < (n : Int) ∧ hlo h ≤ a
def okU (h : AH) (a : Nat) (i : Int) : Prop := ∃ n : Nat, hkd h a = (3, n) ∧ 0 ≤ i ∧ i < (n : Int) ∧ hlo h ≤ a
def okC (h : AH) (a : Nat) (sp : Int) (b : Nat) (dp n : Int) : Prop := ∃ na nb : Nat, hkd h a = (1, na) ∧ (hkd h b = (1, nb) ∧ hlo h ≤ b) ∧ 0 ≤ sp ∧ 0 ≤ dp ∧ 0 ≤ n ∧ sp + n ≤ (na : Int) ∧ dp + n ≤ (nb : Int)
theorem jn_out {α : Type} {K : α} {B : α → Prop} (h : jn K B) : ∃ k, k = K ∧ B k := ⟨K, rfl, h⟩
section AWN
variable {G : GG} {p : Program} {l : Launch} {e : Env} {R : Room} {s : State} {m : MethodId} {args : Array Value} {below : List Frame} {meth : Method} {c : Code} {bc bs : Nat} {Qf : State → Prop} {cc : ByteArray} {own : String}
variable {pc : Nat} {env : Nat → Option AV} {st : List AV} {h : AH}
theorem aw_nmI {x : Int} (k : ∀ y : Int, y = x → AW G p l e R s m args below meth c bc bs Qf pc env (vI y :: st) h) : AW G p l e R s m args below meth c bc bs Qf pc env (vI x :: st) h := k x rfl
theorem aw_nmR {x : Nat} (k : ∀ y : Nat, y = x → AW G p l e R s m args below meth c bc bs Qf pc env (vR y :: st) h) : AW G p l e R s m args below meth c bc bs Qf pc env (vR x :: st) h := k x rfl
theorem aw_nmL {x : Int64} (k : ∀ y : Int64, y = x → AW G p l e R s m args below meth c bc bs Qf pc env (vL y :: st) h) : AW G p l e R s m args below meth c bc bs Qf pc env (vL x :: st) h := k x rfl
theorem aw_nmD {x : UInt64} (k : ∀ y : UInt64, y = x → AW G p l e R s m args below meth c bc bs Qf pc env (vD y :: st) h) : AW G p l e R s m args below meth c bc bs Qf pc env (vD x :: st) h := k x rfl
theorem aw_nmH (k : ∀ h' : AH, h' = h → AW G p l e R s m args below meth c bc bs Qf pc env st h') : AW G p l e R s m args below meth c bc bs Qf pc env st h := k h rfl
theorem aw_iincN (C : CF G p s m args meth c cc own) {i : Nat} {n k x : Int} (hdg : decode cc pc = .ok (.iinc i n, 3)) (hk : (Int32.ofInt n).toInt = k) (hl : env i = some (vI x)) (hn : i < c.maxLocals) (hr : inR (x + k)) (kk : ∀ y : Int, y = x + k → AW G p l e R s m args below meth c bc bs Qf (pc + 3) (es env i (vI y)) st h) : AW G p l e R s m args below meth c bc bs Qf pc env st h := aw_iinc C hdg hk hl hn hr (kk _ rfl)
end AWN
/-! rows that the second law needs: shifts, masks, sums that go round, a number out of the pool -/
theorem pow2_toNat (n : Nat) : ((2 ^ n : Nat) : Int) = (2 : Int) ^ n := by
  induction n with
  | zero => rfl
  | succ n ih => rw [Nat.pow_succ, Int.pow_succ, ← ih, Int.natCast_mul]; rfl
theorem and1_i (x : Int32) : (x &&& 1).toInt = x.toInt % 2 := by
  have h : (x &&& 1).toBitVec = x.toBitVec &&& 1#32 := rfl
  have h2 : (x.toBitVec &&& 1#32).toNat = x.toBitVec.toNat % 2 := by
    rw [BitVec.toNat_and]
    exact Nat.and_two_pow_sub_one_eq_mod _ 1
  show (x &&& 1).toBitVec.toInt = x.toBitVec.toInt % 2
  rw [h, BitVec.toInt_eq_toNat_cond, BitVec.toInt_eq_toNat_cond, h2]
  have h3 := x.toBitVec.isLt
  split <;> split <;> omega
theorem andM_i (x : Int32) : (x &&& 2147483647).toInt = x.toInt % 2147483648 := by
  have h : (x &&& 2147483647).toBitVec = x.toBitVec &&& 2147483647#32 := rfl
  have h2 : (x.toBitVec &&& 2147483647#32).toNat = x.toBitVec.toNat % 2147483648 := by
    rw [BitVec.toNat_and]
    exact Nat.and_two_pow_sub_one_eq_mod _ 31
  show (x &&& 2147483647).toBitVec.toInt = x.toBitVec.toInt % 2147483648
  rw [h, BitVec.toInt_eq_toNat_cond, BitVec.toInt_eq_toNat_cond, h2]
  have h3 := x.toBitVec.isLt
  split <;> split <;> omega
theorem and31_in (y : Int32) (h0 : 0 ≤ y.toInt) (h1 : y.toInt < 32) : (y &&& 31) = y := by
  apply Int32.toInt_inj.mp
  rw [and31]; omega
theorem smod_n (y : Int32) (h0 : 0 ≤ y.toInt) (h1 : y.toInt < 32) : (y.toBitVec.smod 32#32).toNat = y.toInt.toNat := by
  have e : (y.toBitVec.smod 32#32).toInt = y.toInt := by
    rw [BitVec.toInt_smod, show (32#32).toInt = 32 from rfl, Int.fmod_eq_emod_of_nonneg _ (by omega)]
    show y.toInt % 32 = _
    omega
  rw [BitVec.toInt_eq_toNat_cond] at e
  have := (y.toBitVec.smod 32#32).isLt
  split at e <;> omega
theorem shr_i (x y : Int32) (h : 0 ≤ y.toInt ∧ y.toInt < 32) : (x >>> (y &&& 31)).toInt = x.toInt / (2 : Int) ^ y.toInt.toNat := by
  rw [and31_in y h.1 h.2]
  have e : (x >>> y).toInt = x.toInt >>> (y.toBitVec.smod 32#32).toNat := by
    show (BitVec.sshiftRight' x.toBitVec (y.toBitVec.smod 32#32)).toInt = _
    exact BitVec.toInt_sshiftRight'
  rw [e, smod_n y h.1 h.2, Int.shiftRight_eq_div_pow, pow2_toNat]
theorem shl_i (y : Int32) (h : 0 ≤ y.toInt ∧ y.toInt ≤ 8) : ((1 : Int32) <<< (y &&& 31)).toInt = (2 : Int) ^ y.toInt.toNat := by
  have c : y.toInt = 0 ∨ y.toInt = 1 ∨ y.toInt = 2 ∨ y.toInt = 3 ∨ y.toInt = 4 ∨ y.toInt = 5 ∨ y.toInt = 6 ∨ y.toInt = 7 ∨ y.toInt = 8 := by omega
  have k : ∀ z : Int32, y.toInt = z.toInt → y = z := fun z h => Int32.toInt_inj.mp h
  rcases c with c | c | c | c | c | c | c | c | c
  · rw [k 0 c]; decide
  · rw [k 1 c]; decide
  · rw [k 2 c]; decide
  · rw [k 3 c]; decide
  · rw [k 4 c]; decide
  · rw [k 5 c]; decide
  · rw [k 6 c]; decide
  · rw [k 7 c]; decide
  · rw [k 8 c]; decide
theorem inR_32 (x : Int32) : inR x.toInt := by
  have h1 := x.toBitVec.isLt
  have h2 : x.toInt = x.toBitVec.toInt := rfl
  rw [h2, BitVec.toInt_eq_toNat_cond]
  unfold inR
  split <;> omega
theorem ushr_i (x : Int32) : 0 ≤ ((x.toUInt32 >>> ((1 : Int32).toUInt32 &&& Int32.toUInt32 31)).toInt32).toInt ∧ ((x.toUInt32 >>> ((1 : Int32).toUInt32 &&& Int32.toUInt32 31)).toInt32).toInt ≤ 2147483647 := by
  have e1 : ((1 : Int32).toUInt32 &&& Int32.toUInt32 31) = 1 := by decide
  rw [e1]
  have h2 : ((x.toUInt32 >>> (1 : UInt32)).toInt32).toInt = ((x.toUInt32 >>> (1 : UInt32)).toBitVec).toInt := rfl
  have h3 : (x.toUInt32 >>> (1 : UInt32)).toBitVec.toNat = x.toUInt32.toNat >>> 1 := by
    show (x.toUInt32 >>> (1 : UInt32)).toNat = _
    rw [UInt32.toNat_shiftRight]; rfl
  have h4 := x.toUInt32.toBitVec.isLt
  have h5 : x.toUInt32.toNat = x.toUInt32.toBitVec.toNat := rfl
  rw [Nat.shiftRight_eq_div_pow, h5] at h3
  rw [h2, BitVec.toInt_eq_toNat_cond, h3]
  split <;> omega
section AWS
variable {G : GG} {p : Program} {l : Launch} {e : Env} {R : Room} {s : State} {m : MethodId} {args : Array Value} {below : List Frame} {meth : Method} {c : Code} {bc bs : Nat} {Qf : State → Prop} {cc : ByteArray} {own : String}
variable {pc : Nat} {env : Nat → Option AV} {st : List AV} {h : AH}
theorem aw_ldcI (C : CF G p s m args meth c cc own) {index : Nat} {v : Int32} {i : Int} (hw : Cond.constant own index v ∈ xTb) (hi : v.toInt = i) (hdg : decode cc pc = .ok (.ldc index, 2)) (kk : AW G p l e R s m args below meth c bc bs Qf (pc + 2) env (vI i :: st) h) : AW G p l e R s m args below meth c bc bs Qf pc env st h :=
  fun ls rs H locs hL hS hR hf => lv_ldc C.1 C.2.1 C.2.2.1 (C.2.2.2.1 _ hw) hdg (kk ls _ H locs hL (hS.cons (by show some (vI _) = _; rw [hi])) hR hf)
theorem aw_iand1 (C : CF G p s m args meth c cc own) {a : Int} (hdg : decode cc pc = .ok (.iand, 1)) (kk : AW G p l e R s m args below meth c bc bs Qf (pc + 1) env (vI (a % 2) :: st) h) : AW G p l e R s m args below meth c bc bs Qf pc env (vI 1 :: vI a :: st) h := by
  intro ls rs H locs hL hS hR hf
  obtain ⟨y, rs1, rfl, e1, hS1⟩ := hS.int
  obtain ⟨x, rs2, rfl, rfl, hS2⟩ := hS1.int
  have : y = 1 := by rw [toInt_eq, e1]; rfl
  subst this
  exact lv_iand C.1 C.2.1 hdg (kk ls _ H locs hL (hS2.cons (by show some (vI _) = _; rw [and1_i])) hR hf)
theorem aw_iandM (C : CF G p s m args meth c cc own) {a : Int} (hdg : decode cc pc = .ok (.iand, 1)) (kk : AW G p l e R s m args below meth c bc bs Qf (pc + 1) env (vI (a % 2147483648) :: st) h) : AW G p l e R s m args below meth c bc bs Qf pc env (vI 2147483647 :: vI a :: st) h := by
  intro ls rs H locs hL hS hR hf
  obtain ⟨y, rs1, rfl, e1, hS1⟩ := hS.int
  obtain ⟨x, rs2, rfl, rfl, hS2⟩ := hS1.int
  have : y = 2147483647 := by rw [toInt_eq, e1]; rfl
  subst this
  exact lv_iand C.1 C.2.1 hdg (kk ls _ H locs hL (hS2.cons (by show some (vI _) = _; rw [andM_i])) hR hf)
theorem aw_ishr (C : CF G p s m args meth c cc own) {a b : Int} (hdg : decode cc pc = .ok (.ishr, 1)) (hr : 0 ≤ b ∧ b < 32) (kk : AW G p l e R s m args below meth c bc bs Qf (pc + 1) env (vI (a / (2 : Int) ^ b.toNat) :: st) h) : AW G p l e R s m args below meth c bc bs Qf pc env (vI b :: vI a :: st) h := by
  intro ls rs H locs hL hS hR hf
  obtain ⟨y, rs1, rfl, rfl, hS1⟩ := hS.int
  obtain ⟨x, rs2, rfl, rfl, hS2⟩ := hS1.int
  exact lv_ishr C.1 C.2.1 hdg (kk ls _ H locs hL (hS2.cons (by show some (vI _) = _; rw [shr_i x y hr])) hR hf)
theorem aw_ishl1 (C : CF G p s m args meth c cc own) {b : Int} (hdg : decode cc pc = .ok (.ishl, 1)) (hr : 0 ≤ b ∧ b ≤ 8) (kk : AW G p l e R s m args below meth c bc bs Qf (pc + 1) env (vI ((2 : Int) ^ b.toNat) :: st) h) : AW G p l e R s m args below meth c bc bs Qf pc env (vI b :: vI 1 :: st) h := by
  intro ls rs H locs hL hS hR hf
  obtain ⟨y, rs1, rfl, rfl, hS1⟩ := hS.int
  obtain ⟨x, rs2, rfl, e1, hS2⟩ := hS1.int
  have : x = 1 := by rw [toInt_eq, e1]; rfl
  subst this
  exact lv_ishl C.1 C.2.1 hdg (kk ls _ H locs hL (hS2.cons (by show some (vI _) = _; rw [shl_i y hr])) hR hf)
theorem aw_iushr1 (C : CF G p s m args meth c cc own) {a : Int} (hdg : decode cc pc = .ok (.iushr, 1)) (kk : ∀ v : Int, (0 ≤ v ∧ v ≤ 2147483647) → AW G p l e R s m args below meth c bc bs Qf (pc + 1) env (vI v :: st) h) : AW G p l e R s m args below meth c bc bs Qf pc env (vI 1 :: vI a :: st) h := by
  intro ls rs H locs hL hS hR hf
  obtain ⟨y, rs1, rfl, e1, hS1⟩ := hS.int
  obtain ⟨x, rs2, rfl, rfl, hS2⟩ := hS1.int
  have : y = 1 := by rw [toInt_eq, e1]; rfl
  subst this
  exact lv_iushr C.1 C.2.1 hdg rfl (kk _ (ushr_i x) ls _ H locs hL (hS2.cons rfl) hR hf)
theorem aw_iaddW (C : CF G p s m args meth c cc own) {a b : Int} (hdg : decode cc pc = .ok (.iadd, 1)) (kk : ∀ v : Int, inR v → AW G p l e R s m args below meth c bc bs Qf (pc + 1) env (vI v :: st) h) : AW G p l e R s m args below meth c bc bs Qf pc env (vI b :: vI a :: st) h := by
  intro ls rs H locs hL hS hR hf
  obtain ⟨y, rs1, rfl, rfl, hS1⟩ := hS.int
  obtain ⟨x, rs2, rfl, rfl, hS2⟩ := hS1.int
  exact lv_iadd C.1 C.2.1 hdg (kk _ (inR_32 (x + y)) ls _ H locs hL (hS2.cons rfl) hR hf)
theorem aw_imulW (C : CF G p s m args meth c cc own) {a b : Int} (hdg : decode cc pc = .ok (.imul, 1)) (kk : ∀ v : Int, inR v → AW G p l e R s m args below meth c bc bs Qf (pc + 1) env (vI v :: st) h) : AW G p l e R s m args below meth c bc bs Qf pc env (vI b :: vI a :: st) h := by
  intro ls rs H locs hL hS hR hf
  obtain ⟨y, rs1, rfl, rfl, hS1⟩ := hS.int
  obtain ⟨x, rs2, rfl, rfl, hS2⟩ := hS1.int
  exact lv_imul C.1 C.2.1 hdg (kk _ (inR_32 (x * y)) ls _ H locs hL (hS2.cons rfl) hR hf)
end AWS
