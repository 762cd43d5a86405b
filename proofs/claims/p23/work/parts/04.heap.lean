/-! HEAP ROWS, CALLS, METHODS -/
theorem mem_idx {ws : List Cond} (ps : List Nat) (h : ws = ps.filterMap (fun i => tables_1[i]?)) (g : ws.all goodWord = true) : ∀ w ∈ ws, w ∈ xTb := by
  intro w hw
  have hg := List.all_eq_true.mp g w hw
  rw [h] at hw
  obtain ⟨i, -, hi⟩ := List.mem_filterMap.mp hw
  exact xTb_in (List.mem_append_right _ (List.mem_of_getElem? hi)) hg
theorem tb (i : Nat) {w : Cond} (h : tables_1[i]? = some w) (g : goodWord w = true) : w ∈ xTb := xTb_in (List.mem_append_right _ (List.mem_of_getElem? h)) g
theorem tbp (i : Nat) {y : MethodName} {n : Nat} (h : lw_privs[i]? = some (y, n)) : Cond.selects y.cls y y ∈ xTb := xTb_in (List.mem_append_left _ (List.mem_map.mpr ⟨(y, n), List.mem_of_getElem? h, rfl⟩)) rfl
def CI (ci : Nat) (C : String) (T : u_T) (N : Nat) : Prop := vwCl[ci]? = some (C, T, N) ∧ (∀ w ∈ u_ws C T N, w ∈ xTb) ∧ (∀ k, k < N → parseFieldDescriptor (T k).2.2.1 = some (vwTy ci k)) ∧ (∀ a, a < N → ∀ b, b < N → a ≠ b → (T a).2.1 ≠ (T b).2.1)
theorem ci0 : CI 0 RX0 TX0 3 := ⟨rfl, mem_idx [211, 213, 215] (by decide +kernel) (by decide +kernel), tyX0_ok, nmX0⟩
theorem ci1 : CI 1 RX1 TX1 9 := ⟨rfl, mem_idx [179, 181, 183, 185, 187, 189, 191, 193, 195] (by decide +kernel) (by decide +kernel), tyX1_ok, nmX1⟩
theorem ci2 : CI 2 RX2 TX2 13 := ⟨rfl, mem_idx [142, 144, 146, 148, 150, 152, 154, 156, 158, 160, 162, 164, 166] (by decide +kernel) (by decide +kernel), tyX2_ok, nmX2⟩
theorem ci3 : CI 3 RX3 TX3 7 := ⟨rfl, mem_idx [104, 106, 108, 110, 112, 114, 116] (by decide +kernel) (by decide +kernel), tyX3_ok, nmX3⟩
theorem ci4 : CI 4 RX4 TX4 3 := ⟨rfl, mem_idx [70, 72, 74] (by decide +kernel) (by decide +kernel), tyX4_ok, nmX4⟩
theorem ci5 : CI 5 RX5 TX5 3 := ⟨rfl, mem_idx [50, 52, 54] (by decide +kernel) (by decide +kernel), tyX5_ok, nmX5⟩
theorem ci6 : CI 6 RX6 TX6 8 := ⟨rfl, mem_idx [226, 228, 230, 232, 234, 236, 238, 240] (by decide +kernel) (by decide +kernel), tyX6_ok, nmX6⟩
theorem RC.obj {s : State} {D : va_G} {h : AH} {H : Heap} {q ci : Nat} {C : String} {T : u_T} {N : Nat} (I : CI ci C T N) (rc : RC s D h H q) (hk : (hkd h q).1 = ci + 4) : ∃ V : Nat → Value, t_OB q (D.1 ci) N (D.2 ci) H V ∧ ∀ k, k < N → fvr h q ci k (V k) := by
  unfold RC at rc
  generalize hkd h q = kd at rc hk
  obtain ⟨k1, k2⟩ := kd
  subst hk
  obtain ⟨r, V, hr, h1, h2⟩ := rc
  have : r = (C, T, N) := Option.some.inj (hr.symm.trans I.1)
  subst this
  exact ⟨V, h1, h2⟩
theorem RC.ofObj {s : State} {D : va_G} {h : AH} {H : Heap} {q ci : Nat} {C : String} {T : u_T} {N : Nat} (I : CI ci C T N) (hk : (hkd h q).1 = ci + 4) {V : Nat → Value} (h1 : t_OB q (D.1 ci) N (D.2 ci) H V) (h2 : ∀ k, k < N → fvr h q ci k (V k)) : RC s D h H q := by
  unfold RC
  generalize hkd h q = kd at hk
  obtain ⟨k1, k2⟩ := kd
  subst hk
  exact ⟨_, V, I.1, h1, h2⟩
theorem RC.arrI {s : State} {D : va_G} {h : AH} {H : Heap} {q n : Nat} (rc : RC s D h H q) (hk : hkd h q = (1, n)) : ∃ cell : Cell, H[q]? = some cell ∧ s.isArrayOf cell .int ∧ cell.vm ≠ .unknown ∧ cell.slots.size = n ∧ n < 2147483648 ∧ ∀ j : Nat, j < n → ∃ x : Int32, cell.slots[j]? = some (.int x) ∧ x.toInt = haI h q j := by
  unfold RC at rc; rw [hk] at rc; exact rc
theorem RC.arrL {s : State} {D : va_G} {h : AH} {H : Heap} {q n : Nat} (rc : RC s D h H q) (hk : hkd h q = (2, n)) : ∃ cell : Cell, H[q]? = some cell ∧ s.isArrayOf cell .long ∧ cell.vm ≠ .unknown ∧ cell.slots.size = n ∧ n < 2147483648 ∧ ∀ j : Nat, j < n → cell.slots[j]? = some (.long (haL h q j)) := by
  unfold RC at rc; rw [hk] at rc; exact rc
theorem RC.arrR {s : State} {D : va_G} {h : AH} {H : Heap} {q n : Nat} (rc : RC s D h H q) (hk : hkd h q = (3, n)) : ∃ (cA : ClassId) (f : Nat → Option Nat), H[q]? = some (arrV cA n (fun j => va_rf (f j))) ∧ ArrOfT s cA (.object RX4) ∧ va_RA s cA (.object RX4) ∧ n < 2147483648 ∧ ∀ j : Nat, j < n → f j = haR h q j := by
  unfold RC at rc; rw [hk] at rc; exact rc
theorem objP {D : va_G} {ci : Nat} {C : String} {T : u_T} {N : Nat} {H : Heap} {a : Nat} {V : Nat → Value} (I : CI ci C T N) (h1 : t_OB a (D.1 ci) N (D.2 ci) H V) : va_P D vwCl [(a, .inr (ci, (List.range N).map V))] H := by
  intro k q hq
  have hz : k < 1 := (List.getElem?_eq_some_iff.mp hq).1
  rw [show k = 0 by omega] at hq
  cases hq
  refine ⟨_, I.1, h1.to (fun j hj => ?_)⟩
  show V j = ((List.range N).map V).getD j .null
  rw [List.getD_eq_getElem?_getD, List.getElem?_map, List.getElem?_range hj]; rfl
theorem objget {N k : Nat} {V : Nat → Value} (hk : k < N) : ((List.range N).map V)[k]? = some (V k) := by
  rw [List.getElem?_map, List.getElem?_range hk]; rfl
theorem u0_s {α : Type} {f : Nat → α} {a : Nat} {v : α} : u0 f a v a = v := by simp [u0]
theorem u0_n {α : Type} {f : Nat → α} {a q : Nat} {v : α} (h : q ≠ a) : u0 f a v q = f q := by simp [u0, h]
theorem u1_s {α : Type} {f : Int → α} {a : Int} {v : α} : u1 f a v a = v := by simp [u1]
theorem u1_n {α : Type} {f : Int → α} {a q : Int} {v : α} (h : q ≠ a) : u1 f a v q = f q := by simp [u1, h]
section AWH
variable {G : GG} {p : Program} {l : Launch} {e : Env} {R : Room} {s : State} {m : MethodId} {args : Array Value} {below : List Frame} {meth : Method} {c : Code} {bc bs : Nat} {Qf : State → Prop} {cc : ByteArray} {own : String}
variable {pc : Nat} {env : Nat → Option AV} {st : List AV} {h : AH}
theorem get_core (C : CF G p s m args meth c cc own) {ci k idx : Nat} {Cn : String} {T : u_T} {N : Nat} (I : CI ci Cn T N) (hk : k < N) (hw : Cond.fieldLink own idx (T k).1 (T k).2.1 (T k).2.2.1 ∈ xTb) (hdg : decode cc pc = .ok (.getfield idx, 3)) {a : Nat} (ha : (hkd h a).1 = ci + 4) {P : AV → Prop} (hP : ∀ r, fvr h a ci k r → ∃ v, ab r = some v ∧ P v) (kk : ∀ v, P v → AW G p l e R s m args below meth c bc bs Qf (pc + 3) env (v :: st) h) : AW G p l e R s m args below meth c bc bs Qf pc env (vR a :: st) h := by
  intro ls rs H locs hL hS hR hf
  obtain ⟨rs1, rfl, hS1⟩ := hS.ref
  obtain ⟨V, h1, h2⟩ := (hR.2.2.2.2 a).obj I ha
  obtain ⟨v, e1, e2⟩ := hP _ (h2 k hk)
  exact va_get C.1 C.2.1 C.2.2.2.1 I.2.1 C.2.2.1 C.2.2.2.2.2.1 (objP I h1) 0 rfl I.1 k hk (C.2.2.2.1 _ hw) (fun _ h9 => h9) (objget hk) hdg (kk v e2 ls _ H locs hL (hS1.cons e1) hR hf)
theorem aw_getI (C : CF G p s m args meth c cc own) {ci k idx : Nat} {Cn : String} {T : u_T} {N : Nat} (I : CI ci Cn T N) (hk : k < N) (hw : Cond.fieldLink own idx (T k).1 (T k).2.1 (T k).2.2.1 ∈ xTb) (hdg : decode cc pc = .ok (.getfield idx, 3)) {a : Nat} (hty : vwTy ci k = .int) (ha : (hkd h a).1 = ci + 4) (kk : AW G p l e R s m args below meth c bc bs Qf (pc + 3) env (vI (hfI h a k) :: st) h) : AW G p l e R s m args below meth c bc bs Qf pc env (vR a :: st) h :=
  get_core C I hk hw hdg ha (P := fun v => v = vI (hfI h a k)) (fun r hr => by unfold fvr at hr; rw [hty] at hr; obtain ⟨x, rfl, hx⟩ := hr; exact ⟨_, rfl, by rw [hx]⟩) (fun v hv => by rw [hv]; exact kk)
theorem aw_getZ (C : CF G p s m args meth c cc own) {ci k idx : Nat} {Cn : String} {T : u_T} {N : Nat} (I : CI ci Cn T N) (hk : k < N) (hw : Cond.fieldLink own idx (T k).1 (T k).2.1 (T k).2.2.1 ∈ xTb) (hdg : decode cc pc = .ok (.getfield idx, 3)) {a : Nat} (hty : vwTy ci k = .boolean) (ha : (hkd h a).1 = ci + 4) (kk : AW G p l e R s m args below meth c bc bs Qf (pc + 3) env (vI (hfI h a k) :: st) h) : AW G p l e R s m args below meth c bc bs Qf pc env (vR a :: st) h :=
  get_core C I hk hw hdg ha (P := fun v => v = vI (hfI h a k)) (fun r hr => by unfold fvr at hr; rw [hty] at hr; obtain ⟨x, rfl, hx⟩ := hr; exact ⟨_, rfl, by rw [hx]⟩) (fun v hv => by rw [hv]; exact kk)
theorem aw_getL (C : CF G p s m args meth c cc own) {ci k idx : Nat} {Cn : String} {T : u_T} {N : Nat} (I : CI ci Cn T N) (hk : k < N) (hw : Cond.fieldLink own idx (T k).1 (T k).2.1 (T k).2.2.1 ∈ xTb) (hdg : decode cc pc = .ok (.getfield idx, 3)) {a : Nat} (hty : vwTy ci k = .long) (ha : (hkd h a).1 = ci + 4) (kk : AW G p l e R s m args below meth c bc bs Qf (pc + 3) env (vL (hfL h a k) :: st) h) : AW G p l e R s m args below meth c bc bs Qf pc env (vR a :: st) h :=
  get_core C I hk hw hdg ha (P := fun v => v = vL (hfL h a k)) (fun r hr => by unfold fvr at hr; rw [hty] at hr; subst hr; exact ⟨_, rfl, rfl⟩) (fun v hv => by rw [hv]; exact kk)
def isRefTy (t : FieldType) : Bool := match t with
  | .object _ => true
  | .array _ => true
  | _ => false
theorem fvr_ref {h : AH} {q c k : Nat} {v : Value} (hty : isRefTy (vwTy c k) = true) : fvr h q c k v ↔ v = va_rf (hfR h q k) := by
  unfold fvr
  generalize vwTy c k = t at hty
  cases t <;> simp [isRefTy] at hty ⊢
/-- a reference that isn't null: b -/
theorem aw_getR (C : CF G p s m args meth c cc own) {ci k idx : Nat} {Cn : String} {T : u_T} {N : Nat} (I : CI ci Cn T N) (hk : k < N) (hw : Cond.fieldLink own idx (T k).1 (T k).2.1 (T k).2.2.1 ∈ xTb) (hdg : decode cc pc = .ok (.getfield idx, 3)) {a b : Nat} (hty : isRefTy (vwTy ci k) = true) (ha : (hkd h a).1 = ci + 4) (hb : hfR h a k = some b) (kk : AW G p l e R s m args below meth c bc bs Qf (pc + 3) env (vR b :: st) h) : AW G p l e R s m args below meth c bc bs Qf pc env (vR a :: st) h :=
  get_core C I hk hw hdg ha (P := fun v => v = vR b) (fun r hr => by rw [fvr_ref hty] at hr; subst hr; exact ⟨vR b, by rw [hb]; rfl, rfl⟩) (fun v hv => by rw [hv]; exact kk)
theorem put_core (C : CF G p s m args meth c cc own) {ci k idx : Nat} {Cn : String} {T : u_T} {N : Nat} (I : CI ci Cn T N) (hk : k < N) (hw : Cond.fieldLink own idx (T k).1 (T k).2.1 (T k).2.2.1 ∈ xTb) (hfin : (T k).2.2.2 = false ∨ ((T k).2.2.2 = true ∧ meth.name = "<init>" ∧ (T k).1 = own)) (hdg : decode cc pc = .ok (.putfield idx, 3)) {a : Nat} (ha : (hkd h a).1 = ci + 4) (hlw : hlo h ≤ a) {v : AV} {h' : AH}
    (e1 : h'.1 = h.1) (e2 : ∀ q, q ≠ a → agr h h' q) (ek : hkd h' a = hkd h a) (eo : ∀ j, j ≠ k → ∀ r, fvr h a ci j r → fvr h' a ci j r) (hv : ∀ r, ab r = some v → narrow (vwTy ci k) r = r ∧ fits (vwTy ci k) r = true ∧ fvr h' a ci k r)
    (kk : AW G p l e R s m args below meth c bc bs Qf (pc + 3) env st h') : AW G p l e R s m args below meth c bc bs Qf pc env (v :: vR a :: st) h := by
  intro ls rs H locs hL hS hR hf
  obtain ⟨r, rs1, rfl, er, hS1⟩ := hS.pop
  obtain ⟨rs2, rfl, hS2⟩ := hS1.ref
  obtain ⟨V, h1, h2⟩ := (hR.2.2.2.2 a).obj I ha
  obtain ⟨n1, n2, n3⟩ := hv r er
  obtain ⟨cell, q1, q2, q3, q4⟩ := h1
  have hK := C.2.2.2.2.2.1
  have hap := va_apart (own := own) C.2.2.2.1 I.2.1 (vwTy ci) I.2.2.1 I.2.2.2 hK I.1
  obtain ⟨hSl, hfc, kC, hkC, hkind⟩ := hK.1 ci _ I.1
  obtain ⟨cf, kf, fi, f, hi, hsl⟩ := hSl k hk
  have hlay := C.2.2.2.1 _ (I.2.1 _ (u_in_lay hk))
  have fin : ∀ H' : Heap, H'[a]? = some (cell.setSlot f.slot r) → H'.size = H.size → (∀ q, q ≠ a → H'[q]? = H[q]?) → Rel s G.1 G.2.1 h' H' := by
    intro H' g1 g2 g3
    rw [hsl] at g1
    refine hR.upd g2 g3 hlw e1 e2 (RC.ofObj I (by rw [ek]; exact ha) (V := updV V k r) ⟨_, g1, q2, q3, t_set q4 hap hk r⟩ (fun j hj => ?_))
    by_cases hjk : j = k
    · subst hjk; simpa [updV] using n3
    · simp only [updV, if_neg hjk]; exact eo j hjk _ (h2 j hj)
  have hlo' : ∀ q ∈ locs ++ [⟨a, f.slot⟩], G.2.1.size ≤ q.base := by
    intro q hq
    rcases List.mem_append.mp hq with hq | hq
    · exact hf q hq
    · rw [List.mem_singleton.mp hq]; rw [hR.1] at hlw; exact hlw
  rcases hfin with hfin | ⟨hfin, hin2, hdecl⟩
  · unfold u_lay at hlay
    rw [if_neg (by rw [hfin]; decide)] at hlay
    have hst := (u_facts hfc hkC (u_lays C.2.2.2.1 I.2.1 hk) hi).1
    have h6 := u_store hfc hkC hkind hlay hi (I.2.2.1 k hk) n1 n2
    exact W.putK C.1 C.2.1 (f := f) ⟨C.2.2.1, C.2.2.2.1 _ hw, ⟨_, _, _, hi⟩, hst⟩ (by rw [q2]; exact h6) q1 q3 (by rw [hsl]; exact k2_hasslot (q4 k hk)) rfl rfl hdg fun H' g1 g2 g3 => kk ls _ H' _ hL hS2 (fin H' g1 g2 g3) hlo'
  · unfold u_lay at hlay
    rw [if_pos hfin] at hlay
    have hst := (u_facts hfc hkC (u_lays C.2.2.2.1 I.2.1 hk) hi).1
    have hcf : m.cls = cf := by
      obtain ⟨_, _, c', _, _, _, -, -, hf', -, -, -, hown2, -⟩ := Cond.laysFinal_spec hlay
      have e1 : c' = cf := by have := hi.symm.trans hf'; simp at this; exact this.1.symm
      rw [hdecl] at hown2
      rw [← e1]; exact Option.some.inj (C.2.2.1.symm.trans hown2)
    have h6 := u_fits hfc hkC hkind (Or.inr hlay) hi (I.2.2.1 k hk) n1 n2
    exact W.putFinK C.1 C.2.1 C.2.2.1 (C.2.2.2.1 _ hw) hi hst hcf hin2 (by rw [q2]; exact h6) q1 q3 (by rw [hsl]; exact k2_hasslot (q4 k hk)) rfl rfl hdg fun H' g1 g2 g3 => kk ls _ H' _ hL hS2 (fin H' g1 g2 g3) hlo'
theorem agr_sfI {h : AH} {a k : Nat} {v : Int} : ∀ q, q ≠ a → agr h (sfI h a k v) q := fun q hq => ⟨rfl, u0_n hq, rfl, rfl, rfl, rfl, rfl⟩
theorem agr_sfR {h : AH} {a k : Nat} {v : Option Nat} : ∀ q, q ≠ a → agr h (sfR h a k v) q := fun q hq => ⟨rfl, rfl, u0_n hq, rfl, rfl, rfl, rfl⟩
theorem agr_sfL {h : AH} {a k : Nat} {v : Int64} : ∀ q, q ≠ a → agr h (sfL h a k v) q := fun q hq => ⟨rfl, rfl, rfl, u0_n hq, rfl, rfl, rfl⟩
theorem sfI_s {h : AH} {a k : Nat} {v : Int} : hfI (sfI h a k v) a k = v := by show u0 (hfI h) a (u0 (hfI h a) k v) a k = v; rw [u0_s, u0_s]
theorem sfI_n {h : AH} {a k j : Nat} {v : Int} (hj : j ≠ k) : hfI (sfI h a k v) a j = hfI h a j := by show u0 (hfI h) a (u0 (hfI h a) k v) a j = _; rw [u0_s, u0_n hj]
theorem sfR_s {h : AH} {a k : Nat} {v : Option Nat} : hfR (sfR h a k v) a k = v := by show u0 (hfR h) a (u0 (hfR h a) k v) a k = v; rw [u0_s, u0_s]
theorem sfR_n {h : AH} {a k j : Nat} {v : Option Nat} (hj : j ≠ k) : hfR (sfR h a k v) a j = hfR h a j := by show u0 (hfR h) a (u0 (hfR h a) k v) a j = _; rw [u0_s, u0_n hj]
theorem sfL_s {h : AH} {a k : Nat} {v : Int64} : hfL (sfL h a k v) a k = v := by show u0 (hfL h) a (u0 (hfL h a) k v) a k = v; rw [u0_s, u0_s]
theorem sfL_n {h : AH} {a k j : Nat} {v : Int64} (hj : j ≠ k) : hfL (sfL h a k v) a j = hfL h a j := by show u0 (hfL h) a (u0 (hfL h a) k v) a j = _; rw [u0_s, u0_n hj]
theorem fvr_sfI {h : AH} {a c k j : Nat} {v : Int} (hj : j ≠ k) {r : Value} (hr : fvr h a c j r) : fvr (sfI h a k v) a c j r := by
  unfold fvr at hr ⊢
  rw [sfI_n hj]; exact hr
theorem fvr_sfR {h : AH} {a c k j : Nat} {v : Option Nat} (hj : j ≠ k) {r : Value} (hr : fvr h a c j r) : fvr (sfR h a k v) a c j r := by
  unfold fvr at hr ⊢
  rw [sfR_n hj]; exact hr
theorem fvr_sfL {h : AH} {a c k j : Nat} {v : Int64} (hj : j ≠ k) {r : Value} (hr : fvr h a c j r) : fvr (sfL h a k v) a c j r := by
  unfold fvr at hr ⊢
  rw [sfL_n hj]; exact hr
theorem aw_putI (C : CF G p s m args meth c cc own) {ci k idx : Nat} {Cn : String} {T : u_T} {N : Nat} (I : CI ci Cn T N) (hk : k < N) (hw : Cond.fieldLink own idx (T k).1 (T k).2.1 (T k).2.2.1 ∈ xTb) (hfin : (T k).2.2.2 = false ∨ ((T k).2.2.2 = true ∧ meth.name = "<init>" ∧ (T k).1 = own)) (hdg : decode cc pc = .ok (.putfield idx, 3)) {a : Nat} {i : Int} (hty : vwTy ci k = .int) (ha : (hkd h a).1 = ci + 4 ∧ hlo h ≤ a)
    (kk : AW G p l e R s m args below meth c bc bs Qf (pc + 3) env st (sfI h a k i)) : AW G p l e R s m args below meth c bc bs Qf pc env (vI i :: vR a :: st) h :=
  put_core (h' := sfI h a k i) C I hk hw hfin hdg ha.1 ha.2 rfl agr_sfI rfl (fun j hj r hr => fvr_sfI hj hr) (fun r hr => by
    obtain ⟨x, rfl, hx⟩ := ab_int hr
    rw [hty]
    refine ⟨rfl, rfl, ?_⟩
    unfold fvr; rw [hty, sfI_s]; exact ⟨x, rfl, hx⟩) kk
theorem aw_putZ (C : CF G p s m args meth c cc own) {ci k idx : Nat} {Cn : String} {T : u_T} {N : Nat} (I : CI ci Cn T N) (hk : k < N) (hw : Cond.fieldLink own idx (T k).1 (T k).2.1 (T k).2.2.1 ∈ xTb) (hfin : (T k).2.2.2 = false ∨ ((T k).2.2.2 = true ∧ meth.name = "<init>" ∧ (T k).1 = own)) (hdg : decode cc pc = .ok (.putfield idx, 3)) {a : Nat} {i : Int} (hty : vwTy ci k = .boolean) (ha : (hkd h a).1 = ci + 4 ∧ hlo h ≤ a) (hz : i = 0 ∨ i = 1)
    (kk : AW G p l e R s m args below meth c bc bs Qf (pc + 3) env st (sfI h a k i)) : AW G p l e R s m args below meth c bc bs Qf pc env (vI i :: vR a :: st) h :=
  put_core (h' := sfI h a k i) C I hk hw hfin hdg ha.1 ha.2 rfl agr_sfI rfl (fun j hj r hr => fvr_sfI hj hr) (fun r hr => by
    obtain ⟨x, rfl, hx⟩ := ab_int hr
    have hx2 : x = 0 ∨ x = 1 := by
      rcases hz with hz | hz
      · left; rw [toInt_eq, hx, hz]; rfl
      · right; rw [toInt_eq, hx, hz]; rfl
    rw [hty]
    refine ⟨by rcases hx2 with rfl | rfl <;> rfl, by rcases hx2 with rfl | rfl <;> rfl, ?_⟩
    unfold fvr; rw [hty, sfI_s]; exact ⟨x, rfl, hx⟩) kk
theorem aw_putL (C : CF G p s m args meth c cc own) {ci k idx : Nat} {Cn : String} {T : u_T} {N : Nat} (I : CI ci Cn T N) (hk : k < N) (hw : Cond.fieldLink own idx (T k).1 (T k).2.1 (T k).2.2.1 ∈ xTb) (hfin : (T k).2.2.2 = false ∨ ((T k).2.2.2 = true ∧ meth.name = "<init>" ∧ (T k).1 = own)) (hdg : decode cc pc = .ok (.putfield idx, 3)) {a : Nat} {i : Int64} (hty : vwTy ci k = .long) (ha : (hkd h a).1 = ci + 4 ∧ hlo h ≤ a)
    (kk : AW G p l e R s m args below meth c bc bs Qf (pc + 3) env st (sfL h a k i)) : AW G p l e R s m args below meth c bc bs Qf pc env (vL i :: vR a :: st) h :=
  put_core (h' := sfL h a k i) C I hk hw hfin hdg ha.1 ha.2 rfl agr_sfL rfl (fun j hj r hr => fvr_sfL hj hr) (fun r hr => by
    have := ab_long hr
    subst this
    rw [hty]
    refine ⟨rfl, rfl, ?_⟩
    unfold fvr; rw [hty, sfL_s]) kk
theorem aw_putR (C : CF G p s m args meth c cc own) {ci k idx : Nat} {Cn : String} {T : u_T} {N : Nat} (I : CI ci Cn T N) (hk : k < N) (hw : Cond.fieldLink own idx (T k).1 (T k).2.1 (T k).2.2.1 ∈ xTb) (hfin : (T k).2.2.2 = false ∨ ((T k).2.2.2 = true ∧ meth.name = "<init>" ∧ (T k).1 = own)) (hdg : decode cc pc = .ok (.putfield idx, 3)) {a b : Nat} (hty : isRefTy (vwTy ci k) = true) (ha : (hkd h a).1 = ci + 4 ∧ hlo h ≤ a)
    (kk : AW G p l e R s m args below meth c bc bs Qf (pc + 3) env st (sfR h a k (some b))) : AW G p l e R s m args below meth c bc bs Qf pc env (vR b :: vR a :: st) h :=
  put_core (h' := sfR h a k (some b)) C I hk hw hfin hdg ha.1 ha.2 rfl agr_sfR rfl (fun j hj r hr => fvr_sfR hj hr) (fun r hr => by
    have := ab_ref hr
    subst this
    have hz : narrow (vwTy ci k) (.ref b) = .ref b ∧ fits (vwTy ci k) (.ref b) = true := by
      generalize vwTy ci k = t at hty
      cases t <;> simp [isRefTy] at hty <;> exact ⟨rfl, rfl⟩
    refine ⟨hz.1, hz.2, ?_⟩
    rw [fvr_ref hty, sfR_s]; rfl) kk
theorem aw_iald (C : CF G p s m args meth c cc own) (hdg : decode cc pc = .ok (.iaload, 1)) {a n : Nat} {i : Int} (ha : hkd h a = (1, n) ∧ 0 ≤ i ∧ i < (n : Int)) (kk : AW G p l e R s m args below meth c bc bs Qf (pc + 1) env (vI (haI h a i) :: st) h) : AW G p l e R s m args below meth c bc bs Qf pc env (vI i :: vR a :: st) h := by
  intro ls rs H locs hL hS hR hf
  obtain ⟨x, rs1, rfl, rfl, hS1⟩ := hS.int
  obtain ⟨rs2, rfl, hS2⟩ := hS1.ref
  obtain ⟨cell, c1, c2, c3, c4, c5, c6⟩ := (hR.2.2.2.2 a).arrI ha.1
  obtain ⟨d1, d2, d3⟩ := xclamp ha.2.1 ha.2.2
  obtain ⟨y, y1, y2⟩ := c6 _ d2
  rw [d3] at y2
  exact W.iald C.1 C.2.1 c1 c2 c3 (by rw [c4]; exact d1) y1 rfl rfl hdg (kk ls _ H locs hL (hS2.cons (by rw [← y2]; rfl)) hR hf)
theorem aw_lald (C : CF G p s m args meth c cc own) (hdg : decode cc pc = .ok (.laload, 1)) {a n : Nat} {i : Int} (ha : hkd h a = (2, n) ∧ 0 ≤ i ∧ i < (n : Int)) (kk : AW G p l e R s m args below meth c bc bs Qf (pc + 1) env (vL (haL h a i) :: st) h) : AW G p l e R s m args below meth c bc bs Qf pc env (vI i :: vR a :: st) h := by
  intro ls rs H locs hL hS hR hf
  obtain ⟨x, rs1, rfl, rfl, hS1⟩ := hS.int
  obtain ⟨rs2, rfl, hS2⟩ := hS1.ref
  obtain ⟨cell, c1, c2, c3, c4, c5, c6⟩ := (hR.2.2.2.2 a).arrL ha.1
  obtain ⟨d1, d2, d3⟩ := xclamp ha.2.1 ha.2.2
  have y1 := c6 _ d2
  rw [d3] at y1
  exact W.lald C.1 C.2.1 c1 c2 c3 (by rw [c4]; exact d1) y1 rfl rfl hdg (kk ls _ H locs hL (hS2.cons rfl) hR hf)
theorem aw_aald (C : CF G p s m args meth c cc own) (hdg : decode cc pc = .ok (.aaload, 1)) {a n b : Nat} {i : Int} (ha : hkd h a = (3, n) ∧ 0 ≤ i ∧ i < (n : Int)) (hb : haR h a i = some b) (kk : AW G p l e R s m args below meth c bc bs Qf (pc + 1) env (vR b :: st) h) : AW G p l e R s m args below meth c bc bs Qf pc env (vI i :: vR a :: st) h := by
  intro ls rs H locs hL hS hR hf
  obtain ⟨x, rs1, rfl, rfl, hS1⟩ := hS.int
  obtain ⟨rs2, rfl, hS2⟩ := hS1.ref
  obtain ⟨cA, f, c1, c2, c3, c5, c6⟩ := (hR.2.2.2.2 a).arrR ha.1
  obtain ⟨d1, d2, d3⟩ := xclamp ha.2.1 ha.2.2
  have y1 := c6 _ d2
  rw [d3, hb] at y1
  exact W.aald (v := .ref b) (ty := .object RX4) C.1 C.2.1 c1 (c2 n _) rfl (fun q => by cases q) (by rw [arrV_size]; exact d1) (by rw [arrV_read _ _ d2, y1]; rfl) rfl rfl hdg (kk ls _ H locs hL (hS2.cons rfl) hR hf)
theorem aw_alen (C : CF G p s m args meth c cc own) (hdg : decode cc pc = .ok (.arraylength, 1)) {a n : Nat} (ha : hkd h a = (1, n)) (kk : AW G p l e R s m args below meth c bc bs Qf (pc + 1) env (vI (n : Int) :: st) h) : AW G p l e R s m args below meth c bc bs Qf pc env (vR a :: st) h := by
  intro ls rs H locs hL hS hR hf
  obtain ⟨rs2, rfl, hS2⟩ := hS.ref
  obtain ⟨cell, c1, c2, c3, c4, c5, c6⟩ := (hR.2.2.2.2 a).arrI ha
  refine W.alen (n := Int32.ofNat n) C.1 C.2.1 c1 c2 (by rw [c4]) rfl rfl hdg (kk ls _ H locs hL (hS2.cons ?_) hR hf)
  show some (vI (Int32.ofNat n).toInt) = _
  rw [show (Int32.ofNat n).toInt = (n : Int) from nI_toInt c5]
theorem agr_saI {h : AH} {a : Nat} {f : Int → Int} : ∀ q, q ≠ a → agr h (saI h a f) q := fun q hq => ⟨rfl, rfl, rfl, rfl, u0_n hq, rfl, rfl⟩
theorem agr_saL {h : AH} {a : Nat} {f : Int → Int64} : ∀ q, q ≠ a → agr h (saL h a f) q := fun q hq => ⟨rfl, rfl, rfl, rfl, rfl, rfl, u0_n hq⟩
theorem agr_saR {h : AH} {a : Nat} {f : Int → Option Nat} : ∀ q, q ≠ a → agr h (saR h a f) q := fun q hq => ⟨rfl, rfl, rfl, rfl, rfl, u0_n hq, rfl⟩
theorem saI_s {h : AH} {a : Nat} {f : Int → Int} : haI (saI h a f) a = f := u0_s
theorem saL_s {h : AH} {a : Nat} {f : Int → Int64} : haL (saL h a f) a = f := u0_s
theorem saR_s {h : AH} {a : Nat} {f : Int → Option Nat} : haR (saR h a f) a = f := u0_s
theorem slot_set {cell : Cell} {i j : Nat} {v : Value} (hi : i < cell.slots.size) : (cell.setSlot i v).slots[j]? = if j = i then some v else cell.slots[j]? := by
  by_cases h : j = i
  · subst h; simp [Cell.setSlot, hi]
  · rw [if_neg h]; simp [Cell.setSlot, Array.getElem?_setIfInBounds, Ne.symm h]
theorem lo_add {locs : List Loc} {lo a k : Nat} (hf : ∀ q ∈ locs, lo ≤ q.base) (h : lo ≤ a) : ∀ q ∈ locs ++ [(⟨a, k⟩ : Loc)], lo ≤ q.base := by
  intro q hq
  rcases List.mem_append.mp hq with hq | hq
  · exact hf q hq
  · rw [List.mem_singleton.mp hq]; exact h
theorem aw_iast (C : CF G p s m args meth c cc own) (hdg : decode cc pc = .ok (.iastore, 1)) {a n : Nat} {i v : Int} (ha : hkd h a = (1, n) ∧ 0 ≤ i ∧ i < (n : Int) ∧ hlo h ≤ a) (kk : AW G p l e R s m args below meth c bc bs Qf (pc + 1) env st (saI h a (u1 (haI h a) i v))) : AW G p l e R s m args below meth c bc bs Qf pc env (vI v :: vI i :: vR a :: st) h := by
  intro ls rs H locs hL hS hR hf
  obtain ⟨y, rs0, rfl, rfl, hS0⟩ := hS.int
  obtain ⟨x, rs1, rfl, rfl, hS1⟩ := hS0.int
  obtain ⟨rs2, rfl, hS2⟩ := hS1.ref
  obtain ⟨cell, c1, c2, c3, c4, c5, c6⟩ := (hR.2.2.2.2 a).arrI ha.1
  obtain ⟨d1, d2, d3⟩ := xclamp ha.2.1 ha.2.2.1
  refine W.iast C.1 C.2.1 c1 c2 c3 (by rw [c4]; exact d1) rfl rfl hdg fun H' g1 g2 g3 => kk ls _ H' _ hL hS2 (hR.upd g2 g3 ha.2.2.2 rfl agr_saI ?_) (lo_add hf (by rw [← hR.1]; exact ha.2.2.2))
  unfold RC
  rw [show hkd (saI h a (u1 (haI h a) x.toInt y.toInt)) a = (1, n) from ha.1]
  refine ⟨_, g1, c2, c3, by rw [k2_slotsz]; exact c4, c5, fun j hj => ?_⟩
  rw [slot_set (by rw [c4]; exact d2), saI_s]
  by_cases hji : j = x.toNatClampNeg
  · rw [if_pos hji]
    refine ⟨y, rfl, ?_⟩
    rw [show ((j : Nat) : Int) = x.toInt by rw [hji]; exact d3, u1_s]
  · rw [if_neg hji]
    obtain ⟨z, z1, z2⟩ := c6 j hj
    exact ⟨z, z1, by rw [u1_n (by omega)]; exact z2⟩
theorem aw_last (C : CF G p s m args meth c cc own) (hdg : decode cc pc = .ok (.lastore, 1)) {a n : Nat} {i : Int} {v : Int64} (ha : hkd h a = (2, n) ∧ 0 ≤ i ∧ i < (n : Int) ∧ hlo h ≤ a) (kk : AW G p l e R s m args below meth c bc bs Qf (pc + 1) env st (saL h a (u1 (haL h a) i v))) : AW G p l e R s m args below meth c bc bs Qf pc env (vL v :: vI i :: vR a :: st) h := by
  intro ls rs H locs hL hS hR hf
  obtain ⟨rs0, rfl, hS0⟩ := hS.long
  obtain ⟨x, rs1, rfl, rfl, hS1⟩ := hS0.int
  obtain ⟨rs2, rfl, hS2⟩ := hS1.ref
  obtain ⟨cell, c1, c2, c3, c4, c5, c6⟩ := (hR.2.2.2.2 a).arrL ha.1
  obtain ⟨d1, d2, d3⟩ := xclamp ha.2.1 ha.2.2.1
  refine W.last C.1 C.2.1 c1 c2 c3 (by rw [c4]; exact d1) rfl rfl hdg fun H' g1 g2 g3 => kk ls _ H' _ hL hS2 (hR.upd g2 g3 ha.2.2.2 rfl agr_saL ?_) (lo_add hf (by rw [← hR.1]; exact ha.2.2.2))
  unfold RC
  rw [show hkd (saL h a (u1 (haL h a) x.toInt v)) a = (2, n) from ha.1]
  refine ⟨_, g1, c2, c3, by rw [k2_slotsz]; exact c4, c5, fun j hj => ?_⟩
  rw [slot_set (by rw [c4]; exact d2), saL_s]
  by_cases hji : j = x.toNatClampNeg
  · rw [if_pos hji, show ((j : Nat) : Int) = x.toInt by rw [hji]; exact d3, u1_s]
  · rw [if_neg hji, u1_n (by omega)]
    exact c6 j hj
theorem aw_aast (C : CF G p s m args meth c cc own) (hdg : decode cc pc = .ok (.aastore, 1)) {a n b : Nat} {i : Int} (ha : hkd h a = (3, n) ∧ 0 ≤ i ∧ i < (n : Int) ∧ hlo h ≤ a) (hb : (hkd h b).1 = 8) (kk : AW G p l e R s m args below meth c bc bs Qf (pc + 1) env st (saR h a (u1 (haR h a) i (some b)))) : AW G p l e R s m args below meth c bc bs Qf pc env (vR b :: vI i :: vR a :: st) h := by
  intro ls rs H locs hL hS hR hf
  obtain ⟨rs0, rfl, hS0⟩ := hS.ref
  obtain ⟨x, rs1, rfl, rfl, hS1⟩ := hS0.int
  obtain ⟨rs2, rfl, hS2⟩ := hS1.ref
  obtain ⟨cA, f, c1, c2, c3, c5, c6⟩ := (hR.2.2.2.2 a).arrR ha.1
  obtain ⟨d1, d2, d3⟩ := xclamp ha.2.1 ha.2.2.1
  obtain ⟨V, ⟨cellV, v1, v2, v3, -⟩, -⟩ := (hR.2.2.2.2 b).obj ci4 hb
  have hcls := (C.2.2.2.2.2.1.1 4 _ ci4.1).2
  obtain ⟨kA, comp, k1, k2, k3, -⟩ := id c3
  have hcomp : comp = G.1.1 4 := Option.some.inj (k3.symm.trans hcls.1)
  subst hcomp
  obtain ⟨kC, hkC, -⟩ := hcls.2
  refine W.aast C.1 C.2.1 c1 (fun q h => by cases h) (fun h => by cases h) k1 k2 rfl hkC ⟨fun q => d1 (Or.inl q), by rw [arrV_size]; exact d2⟩ v1 (fun q h => by rw [v3] at h; cases h) (by rw [v2]; exact hkC) (by rw [v2]; exact va_assign hcls) rfl rfl hdg fun H' g1 g2 g3 => kk ls _ H' _ hL hS2 (hR.upd g2 g3 ha.2.2.2 rfl agr_saR ?_) (lo_add hf (by rw [← hR.1]; exact ha.2.2.2))
  unfold RC
  rw [show hkd (saR h a (u1 (haR h a) x.toInt (some b))) a = (3, n) from ha.1]
  refine ⟨cA, fun j => if j = x.toNatClampNeg then some b else f j, ?_, c2, c3, c5, fun j hj => ?_⟩
  · rw [g1, arrV_store]
    congr 2
    funext j
    by_cases hji : j = x.toNatClampNeg
    · simp [updV, hji, va_rf]
    · simp [updV, hji]
  · rw [saR_s]
    show (if j = x.toNatClampNeg then some b else f j) = _
    by_cases hji : j = x.toNatClampNeg
    · rw [if_pos hji, show ((j : Nat) : Int) = x.toInt by rw [hji]; exact d3, u1_s]
    · rw [if_neg hji, u1_n (by omega)]
      exact c6 j hj
theorem agr_nAI {h : AH} {n : Nat} : ∀ q, q ≠ hn h → agr h (nAI h n) q := fun q hq => ⟨u0_n hq, rfl, rfl, rfl, u0_n hq, rfl, rfl⟩
theorem agr_nAL {h : AH} {n : Nat} : ∀ q, q ≠ hn h → agr h (nAL h n) q := fun q hq => ⟨u0_n hq, rfl, rfl, rfl, rfl, rfl, u0_n hq⟩
theorem agr_nAR {h : AH} {n : Nat} : ∀ q, q ≠ hn h → agr h (nAR h n) q := fun q hq => ⟨u0_n hq, rfl, rfl, rfl, rfl, u0_n hq, rfl⟩
theorem agr_nOb {h : AH} {n : Nat} : ∀ q, q ≠ hn h → agr h (nOb h n) q := fun q hq => ⟨u0_n hq, u0_n hq, u0_n hq, u0_n hq, rfl, rfl, rfl⟩
theorem aw_newI (C : CF G p s m args meth c cc own) (hw : Cond.arrayClass .int ∈ xTb) (hdg : decode cc pc = .ok (.newarray .int, 2)) {n : Nat} (hn1 : n ≤ 100000) (hcells : bc + 1 ≤ R.cells) (hslots : bs + n ≤ R.slots) (kk : AW G p l e R s m args below meth c (bc + 1) (bs + n) Qf (pc + 2) env (vR (hn h) :: st) (nAI h n)) : AW G p l e R s m args below meth c bc bs Qf pc env (vI (n : Int) :: st) h := by
  intro ls rs H locs hL hS hR hf
  obtain ⟨x, rs1, rfl, e1, hS1⟩ := hS.int
  have e2 : x.toNatClampNeg = n := by show x.toInt.toNat = n; omega
  refine W.newaK (atype := .int) C.1 C.2.1 (C.2.2.2.1 _ hw) rfl hdg rfl (by rw [toInt_lt0]; omega) e2 (by show n * 4 ≤ _; omega) hcells hslots hR.2.1.symm fun H' cA g1 g2 g3 g4 => ?_
  refine kk ls _ H' locs hL (hS1.cons rfl) (hR.new (by rw [g2, hR.2.1]) (fun q hq => g3 q (by rw [hR.2.1]; exact hq)) rfl agr_nAI ?_) hf
  unfold RC
  rw [show hkd (nAI h n) (hn h) = (1, n) from u0_s]
  refine ⟨_, g1, g4 n _, (fun q => by cases q), arrV_size _ _ _, by omega, fun j hj => ⟨0, arrV_read _ _ hj, ?_⟩⟩
  rw [show haI (nAI h n) (hn h) = fun _ => 0 from u0_s]; rfl
theorem aw_newL (C : CF G p s m args meth c cc own) (hw : Cond.arrayClass .long ∈ xTb) (hdg : decode cc pc = .ok (.newarray .long, 2)) {n : Nat} (hn1 : n ≤ 100000) (hcells : bc + 1 ≤ R.cells) (hslots : bs + n ≤ R.slots) (kk : AW G p l e R s m args below meth c (bc + 1) (bs + n) Qf (pc + 2) env (vR (hn h) :: st) (nAL h n)) : AW G p l e R s m args below meth c bc bs Qf pc env (vI (n : Int) :: st) h := by
  intro ls rs H locs hL hS hR hf
  obtain ⟨x, rs1, rfl, e1, hS1⟩ := hS.int
  have e2 : x.toNatClampNeg = n := by show x.toInt.toNat = n; omega
  refine W.newaK (atype := .long) C.1 C.2.1 (C.2.2.2.1 _ hw) rfl hdg rfl (by rw [toInt_lt0]; omega) e2 (by show n * 8 ≤ _; omega) hcells hslots hR.2.1.symm fun H' cA g1 g2 g3 g4 => ?_
  refine kk ls _ H' locs hL (hS1.cons rfl) (hR.new (by rw [g2, hR.2.1]) (fun q hq => g3 q (by rw [hR.2.1]; exact hq)) rfl agr_nAL ?_) hf
  unfold RC
  rw [show hkd (nAL h n) (hn h) = (2, n) from u0_s]
  refine ⟨_, g1, g4 n _, (fun q => by cases q), arrV_size _ _ _, by omega, fun j hj => ?_⟩
  rw [arrV_read _ _ hj, show haL (nAL h n) (hn h) = fun _ => 0 from u0_s]; rfl
theorem aw_newR (C : CF G p s m args meth c cc own) {idx : Nat} (hw : Cond.classLink own idx RX4 ∈ xTb) (hw2 : va_AO RX4 s) (hdg : decode cc pc = .ok (.anewarray idx, 3)) {n : Nat} (hn1 : n ≤ 100000) (hcells : bc + 1 ≤ R.cells) (hslots : bs + n ≤ R.slots) (kk : AW G p l e R s m args below meth c (bc + 1) (bs + n) Qf (pc + 3) env (vR (hn h) :: st) (nAR h n)) : AW G p l e R s m args below meth c bc bs Qf pc env (vI (n : Int) :: st) h := by
  intro ls rs H locs hL hS hR hf
  obtain ⟨x, rs1, rfl, e1, hS1⟩ := hS.int
  have e2 : x.toNatClampNeg = n := by show x.toInt.toNat = n; omega
  refine W.anew C.1 C.2.1 C.2.2.1 (C.2.2.2.1 _ hw) (va_AO.use hw2) rfl hdg rfl (by rw [toInt_lt0]; omega) (by rw [e2]; omega) hcells (by rw [e2]; exact hslots) fun cA kA comp f1 f2 f3 f4 => ?_
  rw [e2, ← hR.2.1]
  refine kk ls _ _ locs hL (hS1.cons rfl) (hR.new (by rw [Array.size_push]) (fun q hq => by rw [Array.getElem?_push, if_neg (Nat.ne_of_lt hq)]) rfl agr_nAR ?_) hf
  unfold RC
  rw [show hkd (nAR h n) (hn h) = (3, n) from u0_s]
  refine ⟨cA, fun _ => none, ?_, fun N z => ⟨(fun k h => by cases h), kA, f2, comp, f3⟩, ⟨kA, comp, f2, f3, f4, f1⟩, by omega, fun j hj => ?_⟩
  · rw [hR.2.1, Array.getElem?_push_size, ← arrV_new]; rfl
  · rw [show haR (nAR h n) (hn h) = fun _ => none from u0_s]
def okTy (t : FieldType) : Bool := match t with
  | .int => true
  | .boolean => true
  | .long => true
  | .object _ => true
  | .array _ => true
  | _ => false
theorem aw_new (C : CF G p s m args meth c cc own) {ci idx : Nat} {Cn : String} {T : u_T} {N : Nat} (I : CI ci Cn T N) (hw : Cond.classLink own idx Cn ∈ xTb) (hw2 : Cond.instantiable Cn N ∈ xTb) (hw3 : Cond.initialized Cn ∈ xTb) (hok : ∀ k, k < N → okTy (vwTy ci k) = true) (hdg : decode cc pc = .ok (.new idx, 3)) (hcells : bc + 1 ≤ R.cells) (hslots : bs + N ≤ R.slots) (kk : AW G p l e R s m args below meth c (bc + 1) (bs + N) Qf (pc + 3) env (vR (hn h) :: st) (nOb h ci)) : AW G p l e R s m args below meth c bc bs Qf pc env st h := by
  intro ls rs H locs hL hS hR hf
  have hKn := C.2.2.2.2.2.1.1 ci _ I.1
  refine W.newcK C.1 C.2.1 C.2.2.1 (C.2.2.2.1 _ hw) (C.2.2.2.1 _ hw2) (C.2.2.2.1 _ hw3) rfl hdg hcells hslots hKn.2.1 hR.2.1.symm fun H' kC g0 g1 g2 g3 => ?_
  refine kk ls _ H' locs hL (hS.cons rfl) (hR.new (by rw [g2, hR.2.1]) (fun q hq => g3 q (by rw [hR.2.1]; exact hq)) rfl agr_nOb ?_) hf
  refine RC.ofObj I (by rw [show hkd (nOb h ci) (hn h) = (ci + 4, 0) from u0_s]) (u_born (vwTy ci) C.2.2.2.1 I.2.1 hKn g0 g1 I.2.2.1) (fun k hk => ?_)
  unfold fvr
  rw [show hfI (nOb h ci) (hn h) = fun _ => 0 from u0_s, show hfR (nOb h ci) (hn h) = fun _ => none from u0_s, show hfL (nOb h ci) (hn h) = fun _ => 0 from u0_s]
  have hk2 := hok k hk
  generalize vwTy ci k = t at hk2 ⊢
  cases t <;> first | rfl | exact ⟨0, rfl, rfl⟩ | (simp [okTy] at hk2)
end AWH
