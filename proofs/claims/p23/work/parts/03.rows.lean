/-! ROWS OF THE ABSTRACT MACHINE -/
abbrev GG : Type := va_G × Heap × (Nat → Nat)
def ZF (s : State) (H0 : Heap) (z : Nat → Nat) : Prop := va_Z "TextMorph" "LEAST_VALUE" "[I" (.ref (z 0)) (fun q => H0.size ≤ q) s H0 ∧ va_Z "TextMorph" "MOST_VALUE" "[I" (.ref (z 1)) (fun q => H0.size ≤ q) s H0 ∧ va_Z "TextMorph" "VALUE_AT_FIRST" "[I" (.ref (z 2)) (fun q => H0.size ≤ q) s H0 ∧ True ∧ True
theorem ZF.moved {s u : State} {H0 : Heap} {z : Nat → Nat} (hvm : s.vm.Alike u.vm) (h : ZF s H0 z) : ZF u H0 z := ⟨h.1.moved hvm, h.2.1.moved hvm, h.2.2.1.moved hvm, trivial, trivial⟩
/-- what holds of a frame all along -/
def CF (G : GG) (p : Program) (s : State) (m : MethodId) (args : Array Value) (meth : Method) (c : Code) (cc : ByteArray) (own : String) : Prop :=
  p.tables.exec = Jvm.exec ∧ c.code = cc ∧ s.vm.findClass own = some m.cls ∧ (∀ w ∈ xTb, w.before args s = true) ∧ meth.locks = false ∧ va_K G.1 vwCl [] s ∧ ZF s G.2.1 G.2.2 ∧ NF s
def AW (G : GG) (p : Program) (l : Launch) (e : Env) (R : Room) (s : State) (m : MethodId) (args : Array Value) (below : List Frame) (meth : Method) (c : Code) (bc bs : Nat) (Qf : State → Prop) (pc : Nat) (env : Nat → Option AV) (st : List AV) (h : AH) : Prop :=
  ∀ (ls : Array Slot) (rs : List Value) (H : Heap) (locs : List Loc), LR c.maxLocals env ls → SR st rs → Rel s G.1 G.2.1 h H → (∀ q ∈ locs, G.2.1.size ≤ q.base) → W p l e R s m args below meth c H locs bc bs Qf (F0 m pc ls rs)
theorem inR_add {x y : Int32} (h : inR (x.toInt + y.toInt)) : (x + y).toInt = x.toInt + y.toInt := by
  unfold inR at h; rw [Int32.toInt_add, Int.bmod_def]; split <;> omega
theorem inR_sub {x y : Int32} (h : inR (x.toInt - y.toInt)) : (x - y).toInt = x.toInt - y.toInt := by
  unfold inR at h; rw [Int32.toInt_sub, Int.bmod_def]; split <;> omega
theorem inR_mul {x y : Int32} (h : inR (x.toInt * y.toInt)) : (x * y).toInt = x.toInt * y.toInt := by
  unfold inR at h; rw [Int32.toInt_mul, Int.bmod_def]
  generalize x.toInt * y.toInt = z at h ⊢
  split <;> omega
theorem inR_neg {x : Int32} (h : inR (-x.toInt)) : (-x).toInt = -x.toInt := by
  unfold inR at h; rw [Int32.toInt_neg, Int.bmod_def]; split <;> omega
theorem inR_divP {x y : Int32} (hx : 0 ≤ x.toInt) (hy : 0 < y.toInt) : (x / y).toInt = x.toInt / y.toInt := by
  rw [Int32.toInt_div_of_ne_right _ _ (by intro h; rw [h] at hy; revert hy; decide), Int.tdiv_eq_ediv_of_nonneg hx]
theorem inR_remP {x y : Int32} (hx : 0 ≤ x.toInt) (_hy : 0 < y.toInt) : (x - x / y * y).toInt = x.toInt % y.toInt := by
  rw [rem_toInt, Int.tmod_eq_emod_of_nonneg hx]
theorem ofInt_toInt {n : Int} (h : inR n) : (Int32.ofInt n).toInt = n := by
  unfold inR at h; exact Int32.toInt_ofInt_of_le (by omega) (by omega)
theorem toInt_0 {x : Int32} : x = 0 ↔ x.toInt = 0 := by
  rw [← Int32.toInt_inj]; simp
theorem toInt_eq {x y : Int32} : x = y ↔ x.toInt = y.toInt := Int32.toInt_inj.symm
theorem toInt_lt0 {x : Int32} : x < 0 ↔ x.toInt < 0 := by
  rw [Int32.lt_iff_toInt_lt]; simp
theorem toInt_le0 {x : Int32} : x ≤ 0 ↔ x.toInt ≤ 0 := by
  rw [Int32.le_iff_toInt_le]; simp
theorem toInt_gt0 {x : Int32} : 0 < x ↔ 0 < x.toInt := by
  rw [Int32.lt_iff_toInt_lt]; simp
theorem toInt_ge0 {x : Int32} : 0 ≤ x ↔ 0 ≤ x.toInt := by
  rw [Int32.le_iff_toInt_le]; simp
theorem toInt_lt {x y : Int32} : x < y ↔ x.toInt < y.toInt := Int32.lt_iff_toInt_lt
theorem toInt_le {x y : Int32} : x ≤ y ↔ x.toInt ≤ y.toInt := Int32.le_iff_toInt_le
theorem inR_toInt (x : Int32) : inR x.toInt := by
  have h1 := x.toInt_lt
  have h2 := x.le_toInt
  unfold inR; omega
theorem xclamp {x : Int32} {n : Nat} (h0 : 0 ≤ x.toInt) (h1 : x.toInt < (n : Int)) : ¬ (x < 0 ∨ n ≤ x.toNatClampNeg) ∧ x.toNatClampNeg < n ∧ ((x.toNatClampNeg : Nat) : Int) = x.toInt := by
  have e : ((x.toNatClampNeg : Nat) : Int) = x.toInt := by
    show ((x.toInt.toNat : Nat) : Int) = x.toInt
    omega
  refine ⟨?_, by omega, e⟩
  rintro (h | h)
  · rw [toInt_lt0] at h; omega
  · omega
theorem LR.store1 {n : Nat} {env : Nat → Option AV} {ls : Array Slot} {i : Nat} {r : Value} {v : AV} (h : LR n env ls) (hi : i < n) (hv : ab r = some v) (hc : r.category = 1) : ∃ (lv : List (Nat × Value)), lv_has ls n lv ∧ ∀ ls', lv_has ls' n ((i, r) :: lv.filter (fun q => !(q.1 == i) && !(q.1 + 1 == i && q.2.category == 2))) → LR n (es env i v) ls' := by
  obtain ⟨w, sz, he⟩ := h
  refine ⟨(List.range n).filterMap (fun j => (env j).bind fun _ => match ls[j]? with | some (.val r) => some (j, r) | _ => none), ⟨sz, w, fun q hq => ?_⟩, fun ls' h' => ⟨h'.2.1, h'.1, fun j v' hj => ?_⟩⟩
  · obtain ⟨j, -, hj⟩ := List.mem_filterMap.mp hq
    obtain ⟨v', hv', hj⟩ := Option.bind_eq_some_iff.mp hj
    split at hj
    next r heq => cases hj; exact heq
    next => cases hj
  · unfold es at hj
    split at hj
    next hji =>
      cases hj
      subst hji
      exact ⟨r, h'.2.2 (j, r) List.mem_cons_self, hv⟩
    next hji =>
      split at hj
      · cases hj
      next hk =>
        split at hj
        · cases hj
        obtain ⟨r', e1, e2⟩ := he j v' hj
        refine ⟨r', h'.2.2 (j, r') (List.mem_cons_of_mem _ (List.mem_filter.mpr ⟨List.mem_filterMap.mpr ⟨j, List.mem_range.mpr ?_, ?_⟩, ?_⟩)), e2⟩
        · rw [← sz]; exact lv_lt e1
        · rw [hj, e1]; rfl
        · simp only [Bool.and_eq_true, Bool.not_eq_true', beq_eq_false_iff_ne, ne_eq]
          refine ⟨hji, ?_⟩
          rw [Bool.and_eq_false_iff]
          by_cases h1 : j + 1 = i
          · right
            have : ¬ acat v' = 2 := fun q => hk ⟨h1, by rw [hj]; exact q⟩
            rw [ab_cat e2]; simpa using this
          · left; simpa using h1
theorem LR.store2 {n : Nat} {env : Nat → Option AV} {ls : Array Slot} {i : Nat} {r : Value} {v : AV} (h : LR n env ls) (hi : i + 1 < n) (hv : ab r = some v) (hc : r.category = 2) : ∃ (lv : List (Nat × Value)), lv_has ls n lv ∧ ∀ ls', lv_has ls' n ((i, r) :: lv.filter (fun q => !(q.1 == i) && (!(q.1 == i + 1) && !(q.1 + 1 == i && q.2.category == 2)))) → LR n (es env i v) ls' := by
  obtain ⟨w, sz, he⟩ := h
  refine ⟨(List.range n).filterMap (fun j => (env j).bind fun _ => match ls[j]? with | some (.val r) => some (j, r) | _ => none), ⟨sz, w, fun q hq => ?_⟩, fun ls' h' => ⟨h'.2.1, h'.1, fun j v' hj => ?_⟩⟩
  · obtain ⟨j, -, hj⟩ := List.mem_filterMap.mp hq
    obtain ⟨v', hv', hj⟩ := Option.bind_eq_some_iff.mp hj
    split at hj
    next r heq => cases hj; exact heq
    next => cases hj
  · unfold es at hj
    split at hj
    next hji =>
      cases hj
      subst hji
      exact ⟨r, h'.2.2 (j, r) List.mem_cons_self, hv⟩
    next hji =>
      split at hj
      · cases hj
      next hk =>
        split at hj
        · cases hj
        next hk2 =>
        obtain ⟨r', e1, e2⟩ := he j v' hj
        refine ⟨r', h'.2.2 (j, r') (List.mem_cons_of_mem _ (List.mem_filter.mpr ⟨List.mem_filterMap.mpr ⟨j, List.mem_range.mpr ?_, ?_⟩, ?_⟩)), e2⟩
        · rw [← sz]; exact lv_lt e1
        · rw [hj, e1]; rfl
        · have hi1 : ¬ j = i + 1 := fun q => hk2 ⟨q, by rw [← ab_cat hv]; exact hc⟩
          have : (j == i) = false := by simpa using hji
          have h3 : (j == i + 1) = false := by simpa using hi1
          have h4 : (j + 1 == i && r'.category == 2) = false := by
            rw [Bool.and_eq_false_iff]
            by_cases h1 : j + 1 = i
            · right
              have : ¬ acat v' = 2 := fun q => hk ⟨h1, by rw [hj]; exact q⟩
              rw [ab_cat e2]; simpa using this
            · left; simpa using h1
          simp only [this, h3, h4]; rfl
def eSub (l : List (Nat × AV)) (env : Nat → Option AV) : Prop := match l with
  | [] => True
  | (i, v) :: r => env i = some v ∧ eSub r env
def eOf (l : List (Nat × AV)) : Nat → Option AV := match l with
  | [] => fun _ => none
  | (i, v) :: r => fun j => if j = i then some v else eOf r j
theorem eSub.of {l : List (Nat × AV)} {env : Nat → Option AV} (h : eSub l env) : ∀ i v, eOf l i = some v → env i = some v := by
  induction l with
  | nil => intro i v hi; cases hi
  | cons q l ih =>
    intro i v hi
    obtain ⟨h1, h2⟩ := h
    unfold eOf at hi
    split at hi
    next e => subst e; cases hi; exact h1
    next => exact ih h2 i v hi
section AWR
variable {G : GG} {p : Program} {l : Launch} {e : Env} {R : Room} {s : State} {m : MethodId} {args : Array Value} {below : List Frame} {meth : Method} {c : Code} {bc bs : Nat} {Qf : State → Prop} {cc : ByteArray} {own : String}
variable {pc : Nat} {env : Nat → Option AV} {st : List AV} {h : AH}
/-- fewer locals, canonical -/
theorem aw_sub (l0 : List (Nat × AV)) (hs : eSub l0 env) (kk : AW G p l e R s m args below meth c bc bs Qf pc (eOf l0) st h) : AW G p l e R s m args below meth c bc bs Qf pc env st h :=
  fun ls rs H locs hL hS hR hf => kk ls rs H locs ⟨hL.1, hL.2.1, fun i v hi => hL.2.2 i v (hs.of i v hi)⟩ hS hR hf
theorem aw_iconst (C : CF G p s m args meth c cc own) {n i : Int} (hdg : decode cc pc = .ok (.iconst n, 1)) (hv : (Int32.ofInt n).toInt = i) (kk : AW G p l e R s m args below meth c bc bs Qf (pc + 1) env (vI i :: st) h) : AW G p l e R s m args below meth c bc bs Qf pc env st h :=
  fun ls rs H locs hL hS hR hf => lv_iconst C.1 C.2.1 hdg rfl (kk ls _ H locs hL (hS.cons (by rw [← hv]; rfl)) hR hf)
theorem aw_bipush (C : CF G p s m args meth c cc own) {n i : Int} (hdg : decode cc pc = .ok (.bipush n, 2)) (hv : (Int8.ofInt n).toInt32.toInt = i) (kk : AW G p l e R s m args below meth c bc bs Qf (pc + 2) env (vI i :: st) h) : AW G p l e R s m args below meth c bc bs Qf pc env st h :=
  fun ls rs H locs hL hS hR hf => lv_bipush C.1 C.2.1 hdg rfl (kk ls _ H locs hL (hS.cons (by rw [← hv]; rfl)) hR hf)
theorem aw_sipush (C : CF G p s m args meth c cc own) {n i : Int} (hdg : decode cc pc = .ok (.sipush n, 3)) (hv : (Int16.ofInt n).toInt32.toInt = i) (kk : AW G p l e R s m args below meth c bc bs Qf (pc + 3) env (vI i :: st) h) : AW G p l e R s m args below meth c bc bs Qf pc env st h :=
  fun ls rs H locs hL hS hR hf => lv_sipush C.1 C.2.1 hdg rfl (kk ls _ H locs hL (hS.cons (by rw [← hv]; rfl)) hR hf)
theorem aw_lconst (C : CF G p s m args meth c cc own) {n : Fin 2} {x : Int64} (hdg : decode cc pc = .ok (.lconst n, 1)) (hv : Int64.ofNat (n : Nat) = x) (kk : AW G p l e R s m args below meth c bc bs Qf (pc + 1) env (vL x :: st) h) : AW G p l e R s m args below meth c bc bs Qf pc env st h :=
  fun ls rs H locs hL hS hR hf => lv_lconst C.1 C.2.1 hdg hv (kk ls _ H locs hL (hS.cons rfl) hR hf)
theorem aw_dconst0 (C : CF G p s m args meth c cc own) (hdg : decode cc pc = .ok (.dconst 0, 1)) (kk : AW G p l e R s m args below meth c bc bs Qf (pc + 1) env (vD FP.dconst0 :: st) h) : AW G p l e R s m args below meth c bc bs Qf pc env st h :=
  fun ls rs H locs hL hS hR hf => lv_dconst0 C.1 C.2.1 hdg (kk ls _ H locs hL (hS.cons rfl) hR hf)
theorem aw_dconst1 (C : CF G p s m args meth c cc own) (hdg : decode cc pc = .ok (.dconst 1, 1)) (kk : AW G p l e R s m args below meth c bc bs Qf (pc + 1) env (vD FP.dconst1 :: st) h) : AW G p l e R s m args below meth c bc bs Qf pc env st h :=
  fun ls rs H locs hL hS hR hf => lv_dconst1 C.1 C.2.1 hdg (kk ls _ H locs hL (hS.cons rfl) hR hf)
theorem aw_ldc2 (C : CF G p s m args meth c cc own) {index : Nat} {x : Int64} (hw : Cond.constantLong own index x ∈ xTb) (hdg : decode cc pc = .ok (.ldc2_w index, 3)) (kk : AW G p l e R s m args below meth c bc bs Qf (pc + 3) env (vL x :: st) h) : AW G p l e R s m args below meth c bc bs Qf pc env st h :=
  fun ls rs H locs hL hS hR hf => lv_ldc2 C.1 C.2.1 C.2.2.1 (C.2.2.2.1 _ hw) hdg (kk ls _ H locs hL (hS.cons rfl) hR hf)
theorem aw_ldc2d (C : CF G p s m args meth c cc own) {index : Nat} {x : UInt64} (hw : Cond.constantDouble own index x ∈ xTb) (hdg : decode cc pc = .ok (.ldc2_w index, 3)) (kk : AW G p l e R s m args below meth c bc bs Qf (pc + 3) env (vD x :: st) h) : AW G p l e R s m args below meth c bc bs Qf pc env st h :=
  fun ls rs H locs hL hS hR hf => lv_ldc2d C.1 C.2.1 C.2.2.1 (C.2.2.2.1 _ hw) hdg (kk ls _ H locs hL (hS.cons rfl) hR hf)
theorem aw_iload_n (C : CF G p s m args meth c cc own) {k : Fin 4} {i : Nat} {x : Int} (hdg : decode cc pc = .ok (.iload_n k, 1)) (hi : (k : Nat) = i) (hl : env i = some (vI x)) (kk : AW G p l e R s m args below meth c bc bs Qf (pc + 1) env (vI x :: st) h) : AW G p l e R s m args below meth c bc bs Qf pc env st h := by
  intro ls rs H locs hL hS hR hf
  obtain ⟨r, h1, h2⟩ := hL.2.2 _ _ hl
  obtain ⟨y, rfl, h3⟩ := ab_int h2
  exact lv_iload_n C.1 C.2.1 hdg hi h1 (kk ls _ H locs hL (hS.cons h2) hR hf)
theorem aw_iload (C : CF G p s m args meth c cc own) {i : Nat} {x : Int} (hdg : decode cc pc = .ok (.iload i, 2)) (hl : env i = some (vI x)) (kk : AW G p l e R s m args below meth c bc bs Qf (pc + 2) env (vI x :: st) h) : AW G p l e R s m args below meth c bc bs Qf pc env st h := by
  intro ls rs H locs hL hS hR hf
  obtain ⟨r, h1, h2⟩ := hL.2.2 _ _ hl
  obtain ⟨y, rfl, h3⟩ := ab_int h2
  exact lv_iload C.1 C.2.1 hdg h1 (kk ls _ H locs hL (hS.cons h2) hR hf)
theorem aw_lload_n (C : CF G p s m args meth c cc own) {k : Fin 4} {i : Nat} {x : Int64} (hdg : decode cc pc = .ok (.lload_n k, 1)) (hi : (k : Nat) = i) (hl : env i = some (vL x)) (kk : AW G p l e R s m args below meth c bc bs Qf (pc + 1) env (vL x :: st) h) : AW G p l e R s m args below meth c bc bs Qf pc env st h := by
  intro ls rs H locs hL hS hR hf
  obtain ⟨r, h1, h2⟩ := hL.2.2 _ _ hl
  have h3 := ab_long h2
  subst h3
  exact lv_lload_n C.1 C.2.1 hdg hi h1 (kk ls _ H locs hL (hS.cons h2) hR hf)
theorem aw_lload (C : CF G p s m args meth c cc own) {i : Nat} {x : Int64} (hdg : decode cc pc = .ok (.lload i, 2)) (hl : env i = some (vL x)) (kk : AW G p l e R s m args below meth c bc bs Qf (pc + 2) env (vL x :: st) h) : AW G p l e R s m args below meth c bc bs Qf pc env st h := by
  intro ls rs H locs hL hS hR hf
  obtain ⟨r, h1, h2⟩ := hL.2.2 _ _ hl
  have h3 := ab_long h2
  subst h3
  exact lv_lload C.1 C.2.1 hdg h1 (kk ls _ H locs hL (hS.cons h2) hR hf)
theorem aw_dload_n (C : CF G p s m args meth c cc own) {k : Fin 4} {i : Nat} {x : UInt64} (hdg : decode cc pc = .ok (.dload_n k, 1)) (hi : (k : Nat) = i) (hl : env i = some (vD x)) (kk : AW G p l e R s m args below meth c bc bs Qf (pc + 1) env (vD x :: st) h) : AW G p l e R s m args below meth c bc bs Qf pc env st h := by
  intro ls rs H locs hL hS hR hf
  obtain ⟨r, h1, h2⟩ := hL.2.2 _ _ hl
  have h3 := ab_dbl h2
  subst h3
  exact lv_dload_n C.1 C.2.1 hdg hi h1 (kk ls _ H locs hL (hS.cons h2) hR hf)
theorem aw_dload (C : CF G p s m args meth c cc own) {i : Nat} {x : UInt64} (hdg : decode cc pc = .ok (.dload i, 2)) (hl : env i = some (vD x)) (kk : AW G p l e R s m args below meth c bc bs Qf (pc + 2) env (vD x :: st) h) : AW G p l e R s m args below meth c bc bs Qf pc env st h := by
  intro ls rs H locs hL hS hR hf
  obtain ⟨r, h1, h2⟩ := hL.2.2 _ _ hl
  have h3 := ab_dbl h2
  subst h3
  exact lv_dload C.1 C.2.1 hdg h1 (kk ls _ H locs hL (hS.cons h2) hR hf)
theorem aw_aload_n (C : CF G p s m args meth c cc own) {k : Fin 4} {i : Nat} {x : Nat} (hdg : decode cc pc = .ok (.aload_n k, 1)) (hi : (k : Nat) = i) (hl : env i = some (vR x)) (kk : AW G p l e R s m args below meth c bc bs Qf (pc + 1) env (vR x :: st) h) : AW G p l e R s m args below meth c bc bs Qf pc env st h := by
  intro ls rs H locs hL hS hR hf
  obtain ⟨r, h1, h2⟩ := hL.2.2 _ _ hl
  have h3 := ab_ref h2
  subst h3
  exact lv_aload_n C.1 C.2.1 hdg hi h1 (kk ls _ H locs hL (hS.cons h2) hR hf)
theorem aw_aload (C : CF G p s m args meth c cc own) {i : Nat} {x : Nat} (hdg : decode cc pc = .ok (.aload i, 2)) (hl : env i = some (vR x)) (kk : AW G p l e R s m args below meth c bc bs Qf (pc + 2) env (vR x :: st) h) : AW G p l e R s m args below meth c bc bs Qf pc env st h := by
  intro ls rs H locs hL hS hR hf
  obtain ⟨r, h1, h2⟩ := hL.2.2 _ _ hl
  have h3 := ab_ref h2
  subst h3
  exact lv_aload C.1 C.2.1 hdg h1 (kk ls _ H locs hL (hS.cons h2) hR hf)
theorem aw_istore_n (C : CF G p s m args meth c cc own) {k : Fin 4} {i : Nat} {x : Int} (hdg : decode cc pc = .ok (.istore_n k, 1)) (hi : (k : Nat) = i) (hn : i < c.maxLocals) (kk : AW G p l e R s m args below meth c bc bs Qf (pc + 1) (es env i (vI x)) st h) : AW G p l e R s m args below meth c bc bs Qf pc env (vI x :: st) h := by
  intro ls rs H locs hL hS hR hf
  obtain ⟨y, rs', rfl, e1, hS'⟩ := hS.int
  obtain ⟨lv, h1, h2⟩ := hL.store1 (i := i) (r := .int y) (v := vI x) hn (by rw [← e1]; rfl) rfl
  exact lv_istore_n C.1 C.2.1 hdg hi h1 hn rfl (fun ls' h' => kk ls' _ H locs (h2 ls' h') hS' hR hf)
theorem aw_istore (C : CF G p s m args meth c cc own) {i : Nat} {x : Int} (hdg : decode cc pc = .ok (.istore i, 2)) (hn : i < c.maxLocals) (kk : AW G p l e R s m args below meth c bc bs Qf (pc + 2) (es env i (vI x)) st h) : AW G p l e R s m args below meth c bc bs Qf pc env (vI x :: st) h := by
  intro ls rs H locs hL hS hR hf
  obtain ⟨y, rs', rfl, e1, hS'⟩ := hS.int
  obtain ⟨lv, h1, h2⟩ := hL.store1 (i := i) (r := .int y) (v := vI x) hn (by rw [← e1]; rfl) rfl
  exact lv_istore C.1 C.2.1 hdg h1 hn rfl (fun ls' h' => kk ls' _ H locs (h2 ls' h') hS' hR hf)
theorem aw_astore_n (C : CF G p s m args meth c cc own) {k : Fin 4} {i : Nat} {x : Nat} (hdg : decode cc pc = .ok (.astore_n k, 1)) (hi : (k : Nat) = i) (hn : i < c.maxLocals) (kk : AW G p l e R s m args below meth c bc bs Qf (pc + 1) (es env i (vR x)) st h) : AW G p l e R s m args below meth c bc bs Qf pc env (vR x :: st) h := by
  intro ls rs H locs hL hS hR hf
  obtain ⟨rs', rfl, hS'⟩ := hS.ref
  obtain ⟨lv, h1, h2⟩ := hL.store1 (i := i) (r := .ref x) (v := vR x) hn rfl rfl
  exact lv_astore_n C.1 C.2.1 hdg hi h1 hn rfl (fun ls' h' => kk ls' _ H locs (h2 ls' h') hS' hR hf)
theorem aw_astore (C : CF G p s m args meth c cc own) {i : Nat} {x : Nat} (hdg : decode cc pc = .ok (.astore i, 2)) (hn : i < c.maxLocals) (kk : AW G p l e R s m args below meth c bc bs Qf (pc + 2) (es env i (vR x)) st h) : AW G p l e R s m args below meth c bc bs Qf pc env (vR x :: st) h := by
  intro ls rs H locs hL hS hR hf
  obtain ⟨rs', rfl, hS'⟩ := hS.ref
  obtain ⟨lv, h1, h2⟩ := hL.store1 (i := i) (r := .ref x) (v := vR x) hn rfl rfl
  exact lv_astore C.1 C.2.1 hdg h1 hn rfl (fun ls' h' => kk ls' _ H locs (h2 ls' h') hS' hR hf)
theorem aw_lstore_n (C : CF G p s m args meth c cc own) {k : Fin 4} {i : Nat} {x : Int64} (hdg : decode cc pc = .ok (.lstore_n k, 1)) (hi : (k : Nat) = i) (hn : i + 1 < c.maxLocals) (kk : AW G p l e R s m args below meth c bc bs Qf (pc + 1) (es env i (vL x)) st h) : AW G p l e R s m args below meth c bc bs Qf pc env (vL x :: st) h := by
  intro ls rs H locs hL hS hR hf
  obtain ⟨rs', rfl, hS'⟩ := hS.long
  obtain ⟨lv, h1, h2⟩ := hL.store2 (i := i) (r := .long x) (v := vL x) hn rfl rfl
  exact lv_lstore_n C.1 C.2.1 hdg hi h1 hn rfl (fun ls' h' => kk ls' _ H locs (h2 ls' h') hS' hR hf)
theorem aw_lstore (C : CF G p s m args meth c cc own) {i : Nat} {x : Int64} (hdg : decode cc pc = .ok (.lstore i, 2)) (hn : i + 1 < c.maxLocals) (kk : AW G p l e R s m args below meth c bc bs Qf (pc + 2) (es env i (vL x)) st h) : AW G p l e R s m args below meth c bc bs Qf pc env (vL x :: st) h := by
  intro ls rs H locs hL hS hR hf
  obtain ⟨rs', rfl, hS'⟩ := hS.long
  obtain ⟨lv, h1, h2⟩ := hL.store2 (i := i) (r := .long x) (v := vL x) hn rfl rfl
  exact lv_lstore C.1 C.2.1 hdg h1 hn rfl (fun ls' h' => kk ls' _ H locs (h2 ls' h') hS' hR hf)
theorem aw_dstore_n (C : CF G p s m args meth c cc own) {k : Fin 4} {i : Nat} {x : UInt64} (hdg : decode cc pc = .ok (.dstore_n k, 1)) (hi : (k : Nat) = i) (hn : i + 1 < c.maxLocals) (kk : AW G p l e R s m args below meth c bc bs Qf (pc + 1) (es env i (vD x)) st h) : AW G p l e R s m args below meth c bc bs Qf pc env (vD x :: st) h := by
  intro ls rs H locs hL hS hR hf
  obtain ⟨rs', rfl, hS'⟩ := hS.dbl
  obtain ⟨lv, h1, h2⟩ := hL.store2 (i := i) (r := .double x) (v := vD x) hn rfl rfl
  exact lv_dstore_n C.1 C.2.1 hdg hi h1 hn rfl (fun ls' h' => kk ls' _ H locs (h2 ls' h') hS' hR hf)
theorem aw_dstore (C : CF G p s m args meth c cc own) {i : Nat} {x : UInt64} (hdg : decode cc pc = .ok (.dstore i, 2)) (hn : i + 1 < c.maxLocals) (kk : AW G p l e R s m args below meth c bc bs Qf (pc + 2) (es env i (vD x)) st h) : AW G p l e R s m args below meth c bc bs Qf pc env (vD x :: st) h := by
  intro ls rs H locs hL hS hR hf
  obtain ⟨rs', rfl, hS'⟩ := hS.dbl
  obtain ⟨lv, h1, h2⟩ := hL.store2 (i := i) (r := .double x) (v := vD x) hn rfl rfl
  exact lv_dstore C.1 C.2.1 hdg h1 hn rfl (fun ls' h' => kk ls' _ H locs (h2 ls' h') hS' hR hf)
theorem aw_iinc (C : CF G p s m args meth c cc own) {i : Nat} {n k x : Int} (hdg : decode cc pc = .ok (.iinc i n, 3)) (hk : (Int32.ofInt n).toInt = k) (hl : env i = some (vI x)) (hn : i < c.maxLocals) (hr : inR (x + k)) (kk : AW G p l e R s m args below meth c bc bs Qf (pc + 3) (es env i (vI (x + k))) st h) : AW G p l e R s m args below meth c bc bs Qf pc env st h := by
  intro ls rs H locs hL hS hR hf
  obtain ⟨r, h1, h2⟩ := hL.2.2 _ _ hl
  obtain ⟨y, rfl, h3⟩ := ab_int h2
  obtain ⟨lv, g1, g2⟩ := hL.store1 (i := i) (r := .int (y + Int32.ofInt n)) (v := vI (x + k)) hn (by rw [← h3, ← hk]; show some (vI _) = _; rw [inR_add (by rw [h3, hk]; exact hr)]) rfl
  have g1' : lv_has ls c.maxLocals ((i, .int y) :: lv) := ⟨g1.1, g1.2.1, fun q hq => by
    rcases List.mem_cons.mp hq with rfl | hq
    · exact h1
    · exact g1.2.2 q hq⟩
  refine lv_iinc C.1 C.2.1 hdg g1' (k := 0) rfl rfl hn rfl (fun ls' h' => kk ls' _ H locs (g2 ls' ?_) hS hR hf)
  rw [List.filter_cons_of_neg (by simp)] at h'
  exact h'
theorem aw_iadd (C : CF G p s m args meth c cc own) {a b : Int} (hdg : decode cc pc = .ok (.iadd, 1)) (hr : inR (a + b)) (kk : AW G p l e R s m args below meth c bc bs Qf (pc + 1) env (vI (a + b) :: st) h) : AW G p l e R s m args below meth c bc bs Qf pc env (vI b :: vI a :: st) h := by
  intro ls rs H locs hL hS hR hf
  obtain ⟨y, rs1, rfl, rfl, hS1⟩ := hS.int
  obtain ⟨x, rs2, rfl, rfl, hS2⟩ := hS1.int
  exact lv_iadd C.1 C.2.1 hdg (kk ls _ H locs hL (hS2.cons (by show some (vI _) = _; rw [inR_add hr])) hR hf)
theorem aw_isub (C : CF G p s m args meth c cc own) {a b : Int} (hdg : decode cc pc = .ok (.isub, 1)) (hr : inR (a - b)) (kk : AW G p l e R s m args below meth c bc bs Qf (pc + 1) env (vI (a - b) :: st) h) : AW G p l e R s m args below meth c bc bs Qf pc env (vI b :: vI a :: st) h := by
  intro ls rs H locs hL hS hR hf
  obtain ⟨y, rs1, rfl, rfl, hS1⟩ := hS.int
  obtain ⟨x, rs2, rfl, rfl, hS2⟩ := hS1.int
  exact lv_isub C.1 C.2.1 hdg (kk ls _ H locs hL (hS2.cons (by show some (vI _) = _; rw [inR_sub hr])) hR hf)
theorem aw_imul (C : CF G p s m args meth c cc own) {a b : Int} (hdg : decode cc pc = .ok (.imul, 1)) (hr : inR (a * b)) (kk : AW G p l e R s m args below meth c bc bs Qf (pc + 1) env (vI (a * b) :: st) h) : AW G p l e R s m args below meth c bc bs Qf pc env (vI b :: vI a :: st) h := by
  intro ls rs H locs hL hS hR hf
  obtain ⟨y, rs1, rfl, rfl, hS1⟩ := hS.int
  obtain ⟨x, rs2, rfl, rfl, hS2⟩ := hS1.int
  exact lv_imul C.1 C.2.1 hdg (kk ls _ H locs hL (hS2.cons (by show some (vI _) = _; rw [inR_mul hr])) hR hf)
theorem aw_idiv (C : CF G p s m args meth c cc own) {a b : Int} (hdg : decode cc pc = .ok (.idiv, 1)) (hr : 0 ≤ a ∧ 0 < b) (kk : AW G p l e R s m args below meth c bc bs Qf (pc + 1) env (vI (a / b) :: st) h) : AW G p l e R s m args below meth c bc bs Qf pc env (vI b :: vI a :: st) h := by
  intro ls rs H locs hL hS hR hf
  obtain ⟨y, rs1, rfl, rfl, hS1⟩ := hS.int
  obtain ⟨x, rs2, rfl, rfl, hS2⟩ := hS1.int
  exact lv_idiv C.1 C.2.1 hdg (by rw [toInt_0]; omega) (kk ls _ H locs hL (hS2.cons (by show some (vI _) = _; rw [inR_divP hr.1 hr.2])) hR hf)
theorem aw_irem (C : CF G p s m args meth c cc own) {a b : Int} (hdg : decode cc pc = .ok (.irem, 1)) (hr : 0 ≤ a ∧ 0 < b) (kk : AW G p l e R s m args below meth c bc bs Qf (pc + 1) env (vI (a % b) :: st) h) : AW G p l e R s m args below meth c bc bs Qf pc env (vI b :: vI a :: st) h := by
  intro ls rs H locs hL hS hR hf
  obtain ⟨y, rs1, rfl, rfl, hS1⟩ := hS.int
  obtain ⟨x, rs2, rfl, rfl, hS2⟩ := hS1.int
  exact lv_irem C.1 C.2.1 hdg (by rw [toInt_0]; omega) (kk ls _ H locs hL (hS2.cons (by show some (vI _) = _; rw [inR_remP hr.1 hr.2])) hR hf)
theorem aw_ineg (C : CF G p s m args meth c cc own) {a : Int} (hdg : decode cc pc = .ok (.ineg, 1)) (hr : inR (-a)) (kk : AW G p l e R s m args below meth c bc bs Qf (pc + 1) env (vI (-a) :: st) h) : AW G p l e R s m args below meth c bc bs Qf pc env (vI a :: st) h := by
  intro ls rs H locs hL hS hR hf
  obtain ⟨x, rs1, rfl, rfl, hS1⟩ := hS.int
  exact lv_ineg C.1 C.2.1 hdg (kk ls _ H locs hL (hS1.cons (by show some (vI _) = _; rw [inR_neg hr])) hR hf)
theorem and31 (x : Int32) : (x &&& 31).toInt = x.toInt % 32 := by
  have h : (x &&& 31).toBitVec = x.toBitVec &&& 31#32 := rfl
  have h2 : (x.toBitVec &&& 31#32).toNat = x.toBitVec.toNat % 32 := by
    rw [BitVec.toNat_and]
    exact Nat.and_two_pow_sub_one_eq_mod _ 5
  show (x &&& 31).toBitVec.toInt = x.toBitVec.toInt % 32
  rw [h, BitVec.toInt_eq_toNat_cond, BitVec.toInt_eq_toNat_cond, h2]
  have h3 := x.toBitVec.isLt
  split <;> split <;> omega
/-- only with the constant 31 -/
theorem aw_iand31 (C : CF G p s m args meth c cc own) {a : Int} (hdg : decode cc pc = .ok (.iand, 1)) (kk : AW G p l e R s m args below meth c bc bs Qf (pc + 1) env (vI (a % 32) :: st) h) : AW G p l e R s m args below meth c bc bs Qf pc env (vI 31 :: vI a :: st) h := by
  intro ls rs H locs hL hS hR hf
  obtain ⟨y, rs1, rfl, e1, hS1⟩ := hS.int
  obtain ⟨x, rs2, rfl, rfl, hS2⟩ := hS1.int
  have : y = 31 := by rw [toInt_eq, e1]; rfl
  subst this
  exact lv_iand C.1 C.2.1 hdg (kk ls _ H locs hL (hS2.cons (by show some (vI _) = _; rw [and31])) hR hf)
theorem aw_i2l (C : CF G p s m args meth c cc own) {a : Int} (hdg : decode cc pc = .ok (.i2l, 1)) (kk : AW G p l e R s m args below meth c bc bs Qf (pc + 1) env (vL (Int64.ofInt a) :: st) h) : AW G p l e R s m args below meth c bc bs Qf pc env (vI a :: st) h := by
  intro ls rs H locs hL hS hR hf
  obtain ⟨x, rs1, rfl, rfl, hS1⟩ := hS.int
  refine lv_i2l C.1 C.2.1 hdg rfl (kk ls _ H locs hL (hS1.cons ?_) hR hf)
  show some (vL x.toInt64) = _
  rw [show x.toInt64 = Int64.ofInt x.toInt from by rw [Int64.ofInt_int32ToInt]]
theorem aw_i2d (C : CF G p s m args meth c cc own) {a : Int} (hdg : decode cc pc = .ok (.i2d, 1)) (kk : AW G p l e R s m args below meth c bc bs Qf (pc + 1) env (vD (FP.i2d (Int32.ofInt a)) :: st) h) : AW G p l e R s m args below meth c bc bs Qf pc env (vI a :: st) h := by
  intro ls rs H locs hL hS hR hf
  obtain ⟨x, rs1, rfl, rfl, hS1⟩ := hS.int
  exact lv_i2d C.1 C.2.1 hdg (kk ls _ H locs hL (hS1.cons (by rw [Int32.ofInt_toInt]; rfl)) hR hf)
theorem aw_ladd (C : CF G p s m args meth c cc own) {a b : Int64} (hdg : decode cc pc = .ok (.ladd, 1)) (kk : AW G p l e R s m args below meth c bc bs Qf (pc + 1) env (vL (a + b) :: st) h) : AW G p l e R s m args below meth c bc bs Qf pc env (vL b :: vL a :: st) h := by
  intro ls rs H locs hL hS hR hf
  obtain ⟨rs1, rfl, hS1⟩ := hS.long
  obtain ⟨rs2, rfl, hS2⟩ := hS1.long
  exact lv_ladd C.1 C.2.1 hdg (kk ls _ H locs hL (hS2.cons rfl) hR hf)
theorem aw_lsub (C : CF G p s m args meth c cc own) {a b : Int64} (hdg : decode cc pc = .ok (.lsub, 1)) (kk : AW G p l e R s m args below meth c bc bs Qf (pc + 1) env (vL (a - b) :: st) h) : AW G p l e R s m args below meth c bc bs Qf pc env (vL b :: vL a :: st) h := by
  intro ls rs H locs hL hS hR hf
  obtain ⟨rs1, rfl, hS1⟩ := hS.long
  obtain ⟨rs2, rfl, hS2⟩ := hS1.long
  exact lv_lsub C.1 C.2.1 hdg (kk ls _ H locs hL (hS2.cons rfl) hR hf)
theorem aw_lmul (C : CF G p s m args meth c cc own) {a b : Int64} (hdg : decode cc pc = .ok (.lmul, 1)) (kk : AW G p l e R s m args below meth c bc bs Qf (pc + 1) env (vL (a * b) :: st) h) : AW G p l e R s m args below meth c bc bs Qf pc env (vL b :: vL a :: st) h := by
  intro ls rs H locs hL hS hR hf
  obtain ⟨rs1, rfl, hS1⟩ := hS.long
  obtain ⟨rs2, rfl, hS2⟩ := hS1.long
  exact lv_lmul C.1 C.2.1 hdg (kk ls _ H locs hL (hS2.cons rfl) hR hf)
theorem aw_lshl (C : CF G p s m args meth c cc own) {a : Int64} {b : Int} (hdg : decode cc pc = .ok (.lshl, 1)) (kk : AW G p l e R s m args below meth c bc bs Qf (pc + 1) env (vL (a <<< ((Int32.ofInt b).toInt64 &&& 63)) :: st) h) : AW G p l e R s m args below meth c bc bs Qf pc env (vI b :: vL a :: st) h := by
  intro ls rs H locs hL hS hR hf
  obtain ⟨x, rs1, rfl, rfl, hS1⟩ := hS.int
  obtain ⟨rs2, rfl, hS2⟩ := hS1.long
  exact lv_lshl C.1 C.2.1 hdg rfl (kk ls _ H locs hL (hS2.cons (by rw [Int32.ofInt_toInt]; rfl)) hR hf)
theorem aw_lcmp (C : CF G p s m args meth c cc own) {a b : Int64} (hdg : decode cc pc = .ok (.lcmp, 1)) (kk : AW G p l e R s m args below meth c bc bs Qf (pc + 1) env (vI (lg_cmp a b).toInt :: st) h) : AW G p l e R s m args below meth c bc bs Qf pc env (vL b :: vL a :: st) h := by
  intro ls rs H locs hL hS hR hf
  obtain ⟨rs1, rfl, hS1⟩ := hS.long
  obtain ⟨rs2, rfl, hS2⟩ := hS1.long
  exact W.lcmp C.1 C.2.1 hdg (kk ls _ H locs hL (hS2.cons rfl) hR hf)
theorem aw_dsub (C : CF G p s m args meth c cc own) {a b : UInt64} (hdg : decode cc pc = .ok (.dsub, 1)) (hr : vf_n64 (FP.dsub a b)) (kk : AW G p l e R s m args below meth c bc bs Qf (pc + 1) env (vD (FP.dsub a b) :: st) h) : AW G p l e R s m args below meth c bc bs Qf pc env (vD b :: vD a :: st) h := by
  intro ls rs H locs hL hS hR hf
  obtain ⟨rs1, rfl, hS1⟩ := hS.dbl
  obtain ⟨rs2, rfl, hS2⟩ := hS1.dbl
  exact lv_dsub C.1 C.2.1 hdg hr (kk ls _ H locs hL (hS2.cons rfl) hR hf)
theorem aw_dmul (C : CF G p s m args meth c cc own) {a b : UInt64} (hdg : decode cc pc = .ok (.dmul, 1)) (hr : vf_n64 (FP.dmul a b)) (kk : AW G p l e R s m args below meth c bc bs Qf (pc + 1) env (vD (FP.dmul a b) :: st) h) : AW G p l e R s m args below meth c bc bs Qf pc env (vD b :: vD a :: st) h := by
  intro ls rs H locs hL hS hR hf
  obtain ⟨rs1, rfl, hS1⟩ := hS.dbl
  obtain ⟨rs2, rfl, hS2⟩ := hS1.dbl
  exact lv_dmul C.1 C.2.1 hdg hr (kk ls _ H locs hL (hS2.cons rfl) hR hf)
theorem aw_ddiv (C : CF G p s m args meth c cc own) {a b : UInt64} (hdg : decode cc pc = .ok (.ddiv, 1)) (hr : vf_n64 (FP.ddiv a b)) (kk : AW G p l e R s m args below meth c bc bs Qf (pc + 1) env (vD (FP.ddiv a b) :: st) h) : AW G p l e R s m args below meth c bc bs Qf pc env (vD b :: vD a :: st) h := by
  intro ls rs H locs hL hS hR hf
  obtain ⟨rs1, rfl, hS1⟩ := hS.dbl
  obtain ⟨rs2, rfl, hS2⟩ := hS1.dbl
  exact lv_ddiv C.1 C.2.1 hdg hr (kk ls _ H locs hL (hS2.cons rfl) hR hf)
theorem aw_dcmp (C : CF G p s m args meth c cc own) {a b : UInt64} {op : CmpOp} (hdg : decode cc pc = .ok (.dcmp op, 1)) (kk : AW G p l e R s m args below meth c bc bs Qf (pc + 1) env (vI (Op.cmpValue (FP.dcmp a b) op).toInt :: st) h) : AW G p l e R s m args below meth c bc bs Qf pc env (vD b :: vD a :: st) h := by
  intro ls rs H locs hL hS hR hf
  obtain ⟨rs1, rfl, hS1⟩ := hS.dbl
  obtain ⟨rs2, rfl, hS2⟩ := hS1.dbl
  exact lv_dcmp C.1 C.2.1 hdg (kk ls _ H locs hL (hS2.cons rfl) hR hf)
theorem aw_d2l (C : CF G p s m args meth c cc own) {a : UInt64} (hdg : decode cc pc = .ok (.d2l, 1)) (kk : AW G p l e R s m args below meth c bc bs Qf (pc + 1) env (vL (FP.d2l a) :: st) h) : AW G p l e R s m args below meth c bc bs Qf pc env (vD a :: st) h := by
  intro ls rs H locs hL hS hR hf
  obtain ⟨rs1, rfl, hS1⟩ := hS.dbl
  exact lv_d2l C.1 C.2.1 hdg (kk ls _ H locs hL (hS1.cons rfl) hR hf)
theorem aw_dup (C : CF G p s m args meth c cc own) {v : AV} (hdg : decode cc pc = .ok (.dup, 1)) (hv : acat v = 1) (kk : AW G p l e R s m args below meth c bc bs Qf (pc + 1) env (v :: v :: st) h) : AW G p l e R s m args below meth c bc bs Qf pc env (v :: st) h := by
  intro ls rs H locs hL hS hR hf
  obtain ⟨r, rs1, rfl, e1, hS1⟩ := hS.pop
  exact lv_dup C.1 C.2.1 hdg (by rw [ab_cat e1]; exact hv) (kk ls _ H locs hL ((hS1.cons e1).cons e1) hR hf)
theorem aw_pop (C : CF G p s m args meth c cc own) {v : AV} (hdg : decode cc pc = .ok (.pop, 1)) (hv : acat v = 1) (kk : AW G p l e R s m args below meth c bc bs Qf (pc + 1) env st h) : AW G p l e R s m args below meth c bc bs Qf pc env (v :: st) h := by
  intro ls rs H locs hL hS hR hf
  obtain ⟨r, rs1, rfl, e1, hS1⟩ := hS.pop
  exact lv_pop C.1 C.2.1 hdg (by rw [ab_cat e1]; exact hv) (kk ls _ H locs hL hS1 hR hf)
theorem aw_dup2 (C : CF G p s m args meth c cc own) {v w : AV} (hdg : decode cc pc = .ok (.dup2, 1)) (hv : acat v = 1) (hw : acat w = 1) (kk : AW G p l e R s m args below meth c bc bs Qf (pc + 1) env (v :: w :: v :: w :: st) h) : AW G p l e R s m args below meth c bc bs Qf pc env (v :: w :: st) h := by
  intro ls rs H locs hL hS hR hf
  obtain ⟨r, rs1, rfl, e1, hS1⟩ := hS.pop
  obtain ⟨r2, rs2, rfl, e2, hS2⟩ := hS1.pop
  exact lv_dup2_11 C.1 C.2.1 hdg (by rw [ab_cat e1]; exact hv) (by rw [ab_cat e2]; exact hw) (kk ls _ H locs hL ((((hS2.cons e2).cons e1).cons e2).cons e1) hR hf)
theorem aw_dup_x1 (C : CF G p s m args meth c cc own) {v w : AV} (hdg : decode cc pc = .ok (.dup_x1, 1)) (hv : acat v = 1) (hw : acat w = 1) (kk : AW G p l e R s m args below meth c bc bs Qf (pc + 1) env (v :: w :: v :: st) h) : AW G p l e R s m args below meth c bc bs Qf pc env (v :: w :: st) h := by
  intro ls rs H locs hL hS hR hf
  obtain ⟨r, rs1, rfl, e1, hS1⟩ := hS.pop
  obtain ⟨r2, rs2, rfl, e2, hS2⟩ := hS1.pop
  exact lv_dup_x1 C.1 C.2.1 hdg (by rw [ab_cat e1]; exact hv) (by rw [ab_cat e2]; exact hw) (kk ls _ H locs hL (((hS2.cons e1).cons e2).cons e1) hR hf)
theorem aw_goto (C : CF G p s m args meth c cc own) {off : Int} {tgt : Nat} (hdg : decode cc pc = .ok (.goto off, 3)) (ht : (pc : Int) + off = (tgt : Int)) (kk : AW G p l e R s m args below meth c bc bs Qf tgt env st h) : AW G p l e R s m args below meth c bc bs Qf pc env st h :=
  fun ls rs H locs hL hS hR hf => lv_goto C.1 C.2.1 hdg ht (kk ls _ H locs hL hS hR hf)
theorem aw_if_eq (C : CF G p s m args meth c cc own) {off a : Int} {tgt : Nat} (hdg : decode cc pc = .ok (.ifCond .eq off, 3)) (ht : (pc : Int) + off = (tgt : Int)) (kt : a = 0 → AW G p l e R s m args below meth c bc bs Qf tgt env st h) (kf : ¬ a = 0 → AW G p l e R s m args below meth c bc bs Qf (pc + 3) env st h) : AW G p l e R s m args below meth c bc bs Qf pc env (vI a :: st) h := by
  intro ls rs H locs hL hS hR hf
  obtain ⟨x, rs1, rfl, rfl, hS1⟩ := hS.int
  exact lv_if_eq C.1 C.2.1 hdg ht (fun q => kt (toInt_0.mp q) ls _ H locs hL hS1 hR hf) (fun q => kf (fun z => q (toInt_0.mpr z)) ls _ H locs hL hS1 hR hf)
theorem aw_if_ne (C : CF G p s m args meth c cc own) {off a : Int} {tgt : Nat} (hdg : decode cc pc = .ok (.ifCond .ne off, 3)) (ht : (pc : Int) + off = (tgt : Int)) (kt : ¬ a = 0 → AW G p l e R s m args below meth c bc bs Qf tgt env st h) (kf : a = 0 → AW G p l e R s m args below meth c bc bs Qf (pc + 3) env st h) : AW G p l e R s m args below meth c bc bs Qf pc env (vI a :: st) h := by
  intro ls rs H locs hL hS hR hf
  obtain ⟨x, rs1, rfl, rfl, hS1⟩ := hS.int
  exact lv_if_ne C.1 C.2.1 hdg ht (fun q => kt (fun z => q (toInt_0.mpr z)) ls _ H locs hL hS1 hR hf) (fun q => kf (toInt_0.mp q) ls _ H locs hL hS1 hR hf)
theorem aw_if_lt (C : CF G p s m args meth c cc own) {off a : Int} {tgt : Nat} (hdg : decode cc pc = .ok (.ifCond .lt off, 3)) (ht : (pc : Int) + off = (tgt : Int)) (kt : a < 0 → AW G p l e R s m args below meth c bc bs Qf tgt env st h) (kf : ¬ a < 0 → AW G p l e R s m args below meth c bc bs Qf (pc + 3) env st h) : AW G p l e R s m args below meth c bc bs Qf pc env (vI a :: st) h := by
  intro ls rs H locs hL hS hR hf
  obtain ⟨x, rs1, rfl, rfl, hS1⟩ := hS.int
  exact lv_if_lt C.1 C.2.1 hdg ht (fun q => kt (toInt_lt0.mp q) ls _ H locs hL hS1 hR hf) (fun q => kf (fun z => q (toInt_lt0.mpr z)) ls _ H locs hL hS1 hR hf)
theorem aw_if_ge (C : CF G p s m args meth c cc own) {off a : Int} {tgt : Nat} (hdg : decode cc pc = .ok (.ifCond .ge off, 3)) (ht : (pc : Int) + off = (tgt : Int)) (kt : 0 ≤ a → AW G p l e R s m args below meth c bc bs Qf tgt env st h) (kf : ¬ 0 ≤ a → AW G p l e R s m args below meth c bc bs Qf (pc + 3) env st h) : AW G p l e R s m args below meth c bc bs Qf pc env (vI a :: st) h := by
  intro ls rs H locs hL hS hR hf
  obtain ⟨x, rs1, rfl, rfl, hS1⟩ := hS.int
  exact lv_if_ge C.1 C.2.1 hdg ht (fun q => kt (toInt_ge0.mp q) ls _ H locs hL hS1 hR hf) (fun q => kf (fun z => q (toInt_ge0.mpr z)) ls _ H locs hL hS1 hR hf)
theorem aw_if_gt (C : CF G p s m args meth c cc own) {off a : Int} {tgt : Nat} (hdg : decode cc pc = .ok (.ifCond .gt off, 3)) (ht : (pc : Int) + off = (tgt : Int)) (kt : 0 < a → AW G p l e R s m args below meth c bc bs Qf tgt env st h) (kf : ¬ 0 < a → AW G p l e R s m args below meth c bc bs Qf (pc + 3) env st h) : AW G p l e R s m args below meth c bc bs Qf pc env (vI a :: st) h := by
  intro ls rs H locs hL hS hR hf
  obtain ⟨x, rs1, rfl, rfl, hS1⟩ := hS.int
  exact lv_if_gt C.1 C.2.1 hdg ht (fun q => kt (toInt_gt0.mp q) ls _ H locs hL hS1 hR hf) (fun q => kf (fun z => q (toInt_gt0.mpr z)) ls _ H locs hL hS1 hR hf)
theorem aw_if_le (C : CF G p s m args meth c cc own) {off a : Int} {tgt : Nat} (hdg : decode cc pc = .ok (.ifCond .le off, 3)) (ht : (pc : Int) + off = (tgt : Int)) (kt : a ≤ 0 → AW G p l e R s m args below meth c bc bs Qf tgt env st h) (kf : ¬ a ≤ 0 → AW G p l e R s m args below meth c bc bs Qf (pc + 3) env st h) : AW G p l e R s m args below meth c bc bs Qf pc env (vI a :: st) h := by
  intro ls rs H locs hL hS hR hf
  obtain ⟨x, rs1, rfl, rfl, hS1⟩ := hS.int
  exact lv_if_le C.1 C.2.1 hdg ht (fun q => kt (toInt_le0.mp q) ls _ H locs hL hS1 hR hf) (fun q => kf (fun z => q (toInt_le0.mpr z)) ls _ H locs hL hS1 hR hf)
theorem aw_icmp_eq (C : CF G p s m args meth c cc own) {off a b : Int} {tgt : Nat} (hdg : decode cc pc = .ok (.if_icmp .eq off, 3)) (ht : (pc : Int) + off = (tgt : Int)) (kt : a = b → AW G p l e R s m args below meth c bc bs Qf tgt env st h) (kf : ¬ a = b → AW G p l e R s m args below meth c bc bs Qf (pc + 3) env st h) : AW G p l e R s m args below meth c bc bs Qf pc env (vI b :: vI a :: st) h := by
  intro ls rs H locs hL hS hR hf
  obtain ⟨y, rs1, rfl, rfl, hS1⟩ := hS.int
  obtain ⟨x, rs2, rfl, rfl, hS2⟩ := hS1.int
  exact lv_icmp_eq C.1 C.2.1 hdg ht (fun q => kt (toInt_eq.mp q) ls _ H locs hL hS2 hR hf) (fun q => kf (fun z => q (toInt_eq.mpr z)) ls _ H locs hL hS2 hR hf)
theorem aw_icmp_ne (C : CF G p s m args meth c cc own) {off a b : Int} {tgt : Nat} (hdg : decode cc pc = .ok (.if_icmp .ne off, 3)) (ht : (pc : Int) + off = (tgt : Int)) (kt : ¬ a = b → AW G p l e R s m args below meth c bc bs Qf tgt env st h) (kf : a = b → AW G p l e R s m args below meth c bc bs Qf (pc + 3) env st h) : AW G p l e R s m args below meth c bc bs Qf pc env (vI b :: vI a :: st) h := by
  intro ls rs H locs hL hS hR hf
  obtain ⟨y, rs1, rfl, rfl, hS1⟩ := hS.int
  obtain ⟨x, rs2, rfl, rfl, hS2⟩ := hS1.int
  exact lv_icmp_ne C.1 C.2.1 hdg ht (fun q => kt (fun z => q (toInt_eq.mpr z)) ls _ H locs hL hS2 hR hf) (fun q => kf (toInt_eq.mp q) ls _ H locs hL hS2 hR hf)
theorem aw_icmp_lt (C : CF G p s m args meth c cc own) {off a b : Int} {tgt : Nat} (hdg : decode cc pc = .ok (.if_icmp .lt off, 3)) (ht : (pc : Int) + off = (tgt : Int)) (kt : a < b → AW G p l e R s m args below meth c bc bs Qf tgt env st h) (kf : ¬ a < b → AW G p l e R s m args below meth c bc bs Qf (pc + 3) env st h) : AW G p l e R s m args below meth c bc bs Qf pc env (vI b :: vI a :: st) h := by
  intro ls rs H locs hL hS hR hf
  obtain ⟨y, rs1, rfl, rfl, hS1⟩ := hS.int
  obtain ⟨x, rs2, rfl, rfl, hS2⟩ := hS1.int
  exact lv_icmp_lt C.1 C.2.1 hdg ht (fun q => kt (toInt_lt.mp q) ls _ H locs hL hS2 hR hf) (fun q => kf (fun z => q (toInt_lt.mpr z)) ls _ H locs hL hS2 hR hf)
theorem aw_icmp_ge (C : CF G p s m args meth c cc own) {off a b : Int} {tgt : Nat} (hdg : decode cc pc = .ok (.if_icmp .ge off, 3)) (ht : (pc : Int) + off = (tgt : Int)) (kt : b ≤ a → AW G p l e R s m args below meth c bc bs Qf tgt env st h) (kf : ¬ b ≤ a → AW G p l e R s m args below meth c bc bs Qf (pc + 3) env st h) : AW G p l e R s m args below meth c bc bs Qf pc env (vI b :: vI a :: st) h := by
  intro ls rs H locs hL hS hR hf
  obtain ⟨y, rs1, rfl, rfl, hS1⟩ := hS.int
  obtain ⟨x, rs2, rfl, rfl, hS2⟩ := hS1.int
  exact lv_icmp_ge C.1 C.2.1 hdg ht (fun q => kt (toInt_le.mp q) ls _ H locs hL hS2 hR hf) (fun q => kf (fun z => q (toInt_le.mpr z)) ls _ H locs hL hS2 hR hf)
theorem aw_icmp_gt (C : CF G p s m args meth c cc own) {off a b : Int} {tgt : Nat} (hdg : decode cc pc = .ok (.if_icmp .gt off, 3)) (ht : (pc : Int) + off = (tgt : Int)) (kt : b < a → AW G p l e R s m args below meth c bc bs Qf tgt env st h) (kf : ¬ b < a → AW G p l e R s m args below meth c bc bs Qf (pc + 3) env st h) : AW G p l e R s m args below meth c bc bs Qf pc env (vI b :: vI a :: st) h := by
  intro ls rs H locs hL hS hR hf
  obtain ⟨y, rs1, rfl, rfl, hS1⟩ := hS.int
  obtain ⟨x, rs2, rfl, rfl, hS2⟩ := hS1.int
  exact lv_icmp_gt C.1 C.2.1 hdg ht (fun q => kt (toInt_lt.mp q) ls _ H locs hL hS2 hR hf) (fun q => kf (fun z => q (toInt_lt.mpr z)) ls _ H locs hL hS2 hR hf)
theorem aw_icmp_le (C : CF G p s m args meth c cc own) {off a b : Int} {tgt : Nat} (hdg : decode cc pc = .ok (.if_icmp .le off, 3)) (ht : (pc : Int) + off = (tgt : Int)) (kt : a ≤ b → AW G p l e R s m args below meth c bc bs Qf tgt env st h) (kf : ¬ a ≤ b → AW G p l e R s m args below meth c bc bs Qf (pc + 3) env st h) : AW G p l e R s m args below meth c bc bs Qf pc env (vI b :: vI a :: st) h := by
  intro ls rs H locs hL hS hR hf
  obtain ⟨y, rs1, rfl, rfl, hS1⟩ := hS.int
  obtain ⟨x, rs2, rfl, rfl, hS2⟩ := hS1.int
  exact lv_icmp_le C.1 C.2.1 hdg ht (fun q => kt (toInt_le.mp q) ls _ H locs hL hS2 hR hf) (fun q => kf (fun z => q (toInt_le.mpr z)) ls _ H locs hL hS2 hR hf)
/-- a switch: the value as a mathematical int -/
theorem aw_lookup (C : CF G p s m args meth c cc own) {dflt : Int} {ps : Array (Int × Int)} {len : Nat} {a off : Int} {tgt : Nat} (hdg : decode cc pc = .ok (.lookupswitch dflt ps, len)) (hp : (ps.toList.zip (ps.toList.drop 1)).all (fun (a, next) => a.1 < next.1) = true) (ho : Op.lookupswitch.offset ps.toList dflt a = off) (ht : (pc : Int) + off = (tgt : Int)) (kk : AW G p l e R s m args below meth c bc bs Qf tgt env st h) : AW G p l e R s m args below meth c bc bs Qf pc env (vI a :: st) h := by
  intro ls rs H locs hL hS hR hf
  obtain ⟨x, rs1, rfl, rfl, hS1⟩ := hS.int
  exact lv_lookup C.1 C.2.1 hdg hp ho ht (kk ls _ H locs hL hS1 hR hf)
theorem aw_tableOut (C : CF G p s m args meth c cc own) {dflt lo hi : Int} {offs : Array Int} {len : Nat} {a : Int} {tgt : Nat} (hdg : decode cc pc = .ok (.tableswitch dflt lo hi offs, len)) (ha : a < lo ∨ hi < a) (ht : (pc : Int) + dflt = (tgt : Int)) (kk : AW G p l e R s m args below meth c bc bs Qf tgt env st h) : AW G p l e R s m args below meth c bc bs Qf pc env (vI a :: st) h := by
  intro ls rs H locs hL hS hR hf
  obtain ⟨x, rs1, rfl, rfl, hS1⟩ := hS.int
  exact lv_tableOut C.1 C.2.1 hdg ha ht (kk ls _ H locs hL hS1 hR hf)
theorem aw_tableIn (C : CF G p s m args meth c cc own) {dflt lo hi : Int} {offs : Array Int} {len : Nat} {a off : Int} {tgt : Nat} (hdg : decode cc pc = .ok (.tableswitch dflt lo hi offs, len)) (h1 : ¬ a < lo) (h2 : ¬ hi < a) (ho : offs[(a - lo).toNat]? = some off) (ht : (pc : Int) + off = (tgt : Int)) (kk : AW G p l e R s m args below meth c bc bs Qf tgt env st h) : AW G p l e R s m args below meth c bc bs Qf pc env (vI a :: st) h := by
  intro ls rs H locs hL hS hR hf
  obtain ⟨x, rs1, rfl, rfl, hS1⟩ := hS.int
  exact lv_tableIn C.1 C.2.1 hdg h1 h2 ho ht (kk ls _ H locs hL hS1 hR hf)
end AWR
