def okA (h : AH) (a c : Nat) : Prop := (hkd h a).1 = c + 4
def okP (h : AH) (a c : Nat) : Prop := (hkd h a).1 = c + 4 ∧ hlo h ≤ a
def okI (h : AH) (a : Nat) (i : Int) : Prop := ∃ n : Nat, hkd h a = (1, n) ∧ 0 ≤ i ∧ i < (n : Int)
def okJ (h : AH) (a : Nat) (i : Int) : Prop := ∃ n : Nat, hkd h a = (2, n) ∧ 0 ≤ i ∧ i < (n : Int)
def okQ (h : AH) (a : Nat) (i : Int) : Prop := ∃ n : Nat, hkd h a = (3, n) ∧ 0 ≤ i ∧ i < (n : Int)
def okW (h : AH) (a : Nat) (i : Int) : Prop := ∃ n : Nat, hkd h a = (1, n) ∧ 0 ≤ i ∧ i < (n : Int) ∧ hlo h ≤ a
def okV (h : AH) (a : Nat) (i : Int) : Prop := ∃ n : Nat, hkd h a = (2, n) ∧ 0 ≤ i ∧ i < (n : Int) ∧ hlo h ≤ a
def okU (h : AH) (a : Nat) (i : Int) : Prop := ∃ n : Nat, hkd h a = (3, n) ∧ 0 ≤ i ∧ i < (n : Int) ∧ hlo h ≤ a
def okC (h : AH) (a : Nat) (sp : Int) (b : Nat) (dp n : Int) : Prop := ∃ na nb : Nat, hkd h a = (1, na) ∧ (hkd h b = (1, nb) ∧ hlo h ≤ b) ∧ 0 ≤ sp ∧ 0 ≤ dp ∧ 0 ≤ n ∧ sp + n ≤ (na : Int) ∧ dp + n ≤ (nb : Int)
theorem jn_out {α : Type} {K : α} {B : α → Prop} (h : jn K B) : ∃ k, k = K ∧ B k := ⟨K, rfl, h⟩
section AWN
variable {G : GG} {p : Program} {l : Launch} {e : Env} {R : Room} {s : State} {m : MethodId} {args : Array Value} {below : List Frame} {meth : Method} {c : Code} {bc bs : Nat} {Qf : State → Prop} {cc : ByteArray} {own : String}
variable {pc : Nat} {env : Nat → Option AV} {st : List AV} {h : AH}
theorem aw_nmI {x : Int} (k : ∀ y : Int, y = x → AW G p l e R s m args below meth c bc bs Qf pc env (vI y :: st) h) : AW G p l e R s m args below meth c bc bs Qf pc env (vI x :: st) h := k x rfl
theorem aw_nmR {x : Nat} (k : ∀ y : Nat, y = x → AW G p l e R s m args below meth c bc bs Qf pc env (vR y :: st) h) : AW G p l e R s m args below meth c bc bs Qf pc env (vR x :: st) h := k x rfl
theorem aw_nmL {x : Int64} (k : ∀ y : Int64, y = x → AW G p l e R s m args below meth c bc bs Qf pc env (vL y :: st) h) : AW G p l e R s m args below meth c bc bs Qf pc env (vL x :: st) h := k x rfl
theorem aw_nmD {x : UInt64} (k : ∀ y : UInt64, y = x → AW G p l e R s m args below meth c bc bs Qf pc env (vD y :: st) h) : AW G p l e R s m args below meth c bc bs Qf pc env (vD x :: st) h := k x rfl
theorem aw_nmH (k : ∀ h' : AH, h' = h → AW G p l e R s m args below meth c bc bs Qf pc env st h') : AW G p l e R s m args below meth c bc bs Qf pc env st h := k h rfl
theorem aw_iincN (C : CF G p s m args meth c cc own) {i : Nat} {n k x : Int} (hdg : decode cc pc = .ok (.iinc i n, 3)) (hk : (Int32.ofInt n).toInt = k) (hl : env i = some (vI x)) (hn : i < c.maxLocals) (hr : inR (x + k)) (kk : ∀ y : Int, y = x + k → AW G p l e R s m args below meth c bc bs Qf (pc + 3) (es env i (vI y)) st h) : AW G p l e R s m args below meth c bc bs Qf pc env st h := aw_iinc C hdg hk hl hn hr (kk _ rfl)
end AWN
def xnms : List String := ["java/lang/RuntimeException", "java/lang/Exception"]
theorem xfits : ∀ n ∈ xnms, Bundle.fit n = true := by decide +kernel
theorem xfit_I : Bundle.fit "java/lang/IndexOutOfBoundsException" = true := by decide +kernel
theorem xat0_I : (vx_atS RX6 73 "java/lang/IndexOutOfBoundsException" xnms).all (fun w => decide (w ∈ lw_tbl)) = true := by decide +kernel
theorem xat_I : ∀ w ∈ vx_atS RX6 73 "java/lang/IndexOutOfBoundsException" xnms, w ∈ lw_tbl := fun w hw => of_decide_eq_true (List.all_eq_true.mp xat0_I w hw)
theorem xgd_I : (vx_atS RX6 73 "java/lang/IndexOutOfBoundsException" xnms).all vx_ot = true := by decide +kernel
theorem xcd_I : (vx_atS RX6 73 "java/lang/IndexOutOfBoundsException" xnms).all (fun w => goodWord w || xCd w) = true := by decide +kernel
theorem xcast_I : Cond.castable "java/lang/IndexOutOfBoundsException" "java/lang/IndexOutOfBoundsException" ∈ xEx := List.mem_filter.mpr ⟨List.mem_append_right _ (List.mem_of_getElem? (i := 549) (by decide +kernel)), rfl⟩
theorem xfit_A : Bundle.fit "java/lang/IllegalArgumentException" = true := by decide +kernel
theorem xat0_A : (vx_atS RX6 84 "java/lang/IllegalArgumentException" xnms).all (fun w => decide (w ∈ lw_tbl)) = true := by decide +kernel
theorem xat_A : ∀ w ∈ vx_atS RX6 84 "java/lang/IllegalArgumentException" xnms, w ∈ lw_tbl := fun w hw => of_decide_eq_true (List.all_eq_true.mp xat0_A w hw)
theorem xgd_A : (vx_atS RX6 84 "java/lang/IllegalArgumentException" xnms).all vx_ot = true := by decide +kernel
theorem xcd_A : (vx_atS RX6 84 "java/lang/IllegalArgumentException" xnms).all (fun w => goodWord w || xCd w) = true := by decide +kernel
theorem xcast_A : Cond.castable "java/lang/IllegalArgumentException" "java/lang/IllegalArgumentException" ∈ xEx := List.mem_filter.mpr ⟨List.mem_append_right _ (List.mem_of_getElem? (i := 624) (by decide +kernel)), rfl⟩
theorem xfit_S : Bundle.fit "java/lang/IllegalStateException" = true := by decide +kernel
theorem xat0_S : (vx_atS RX6 127 "java/lang/IllegalStateException" xnms).all (fun w => decide (w ∈ lw_tbl)) = true := by decide +kernel
theorem xat_S : ∀ w ∈ vx_atS RX6 127 "java/lang/IllegalStateException" xnms, w ∈ lw_tbl := fun w hw => of_decide_eq_true (List.all_eq_true.mp xat0_S w hw)
theorem xgd_S : (vx_atS RX6 127 "java/lang/IllegalStateException" xnms).all vx_ot = true := by decide +kernel
theorem xcd_S : (vx_atS RX6 127 "java/lang/IllegalStateException" xnms).all (fun w => goodWord w || xCd w) = true := by decide +kernel
theorem xcast_S : Cond.castable "java/lang/IllegalStateException" "java/lang/IllegalStateException" ∈ xEx := List.mem_filter.mpr ⟨List.mem_append_right _ (List.mem_of_getElem? (i := 674) (by decide +kernel)), rfl⟩
