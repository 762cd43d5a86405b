/-! THE ABSTRACT MACHINE: values are mathematical ints, the heap is a tuple of functions; one row an instruction -/
abbrev AV : Type := Int ⊕ (Option Nat ⊕ (Int64 ⊕ UInt64))
abbrev vI (i : Int) : AV := .inl i
abbrev vR (a : Nat) : AV := .inr (.inl (some a))
abbrev vN : AV := .inr (.inl none)
abbrev vQ (r : Option Nat) : AV := .inr (.inl r)
abbrev vL (x : Int64) : AV := .inr (.inr (.inl x))
abbrev vD (x : UInt64) : AV := .inr (.inr (.inr x))
def ab (v : Value) : Option AV := match v with
  | .int x => some (vI x.toInt)
  | .ref a => some (vR a)
  | .null => some vN
  | .long x => some (vL x)
  | .double b => some (vD b)
  | _ => none
def acat (v : AV) : Nat := match v with
  | .inr (.inr _) => 2
  | _ => 1
theorem ab_int {r : Value} {i : Int} (h : ab r = some (vI i)) : ∃ x : Int32, r = .int x ∧ x.toInt = i := by
  cases r <;> simp [ab, vI, vR, vN, vL, vD] at h
  exact ⟨_, rfl, h⟩
theorem ab_ref {r : Value} {a : Nat} (h : ab r = some (vR a)) : r = .ref a := by
  cases r <;> simp [ab, vI, vR, vN, vL, vD] at h
  rw [h]
theorem ab_null {r : Value} (h : ab r = some vN) : r = .null := by
  cases r <;> simp [ab, vI, vR, vN, vL, vD] at h
  rfl
theorem ab_q {r : Value} {o : Option Nat} (h : ab r = some (vQ o)) : r = va_rf o := by
  cases o with
  | none => exact ab_null h
  | some a => exact ab_ref h
theorem ab_long {r : Value} {x : Int64} (h : ab r = some (vL x)) : r = .long x := by
  cases r <;> simp [ab, vI, vR, vN, vL, vD] at h
  rw [h]
theorem ab_dbl {r : Value} {x : UInt64} (h : ab r = some (vD x)) : r = .double x := by
  cases r <;> simp [ab, vI, vR, vN, vL, vD] at h
  rw [h]
theorem ab_cat {r : Value} {v : AV} (h : ab r = some v) : r.category = acat v := by
  cases r <;> simp [ab] at h <;> subst h <;> rfl
theorem ab_rf (o : Option Nat) : ab (va_rf o) = some (vQ o) := by cases o <;> rfl
/-- the abstract heap: (first address that may be written, size), kinds, int fields, references, longs, int arrays, reference arrays, long arrays -/
abbrev AH : Type := (Nat × Nat) × (Nat → Nat × Nat) × (Nat → Nat → Int) × (Nat → Nat → Option Nat) × (Nat → Nat → Int64) × (Nat → Int → Int) × (Nat → Int → Option Nat) × (Nat → Int → Int64)
def hlo (h : AH) : Nat := h.1.1
def hn (h : AH) : Nat := h.1.2
def hkd (h : AH) : Nat → Nat × Nat := h.2.1
def hfI (h : AH) : Nat → Nat → Int := h.2.2.1
def hfR (h : AH) : Nat → Nat → Option Nat := h.2.2.2.1
def hfL (h : AH) : Nat → Nat → Int64 := h.2.2.2.2.1
def haI (h : AH) : Nat → Int → Int := h.2.2.2.2.2.1
def haR (h : AH) : Nat → Int → Option Nat := h.2.2.2.2.2.2.1
def haL (h : AH) : Nat → Int → Int64 := h.2.2.2.2.2.2.2
def u1 {α : Type} (f : Int → α) (i : Int) (v : α) : Int → α := fun j => if j = i then v else f j
def u0 {α : Type} (f : Nat → α) (a : Nat) (v : α) : Nat → α := fun q => if q = a then v else f q
def sfI (h : AH) (a k : Nat) (v : Int) : AH := (h.1, hkd h, u0 (hfI h) a (u0 (hfI h a) k v), hfR h, hfL h, haI h, haR h, haL h)
def sfR (h : AH) (a k : Nat) (v : Option Nat) : AH := (h.1, hkd h, hfI h, u0 (hfR h) a (u0 (hfR h a) k v), hfL h, haI h, haR h, haL h)
def sfL (h : AH) (a k : Nat) (v : Int64) : AH := (h.1, hkd h, hfI h, hfR h, u0 (hfL h) a (u0 (hfL h a) k v), haI h, haR h, haL h)
def saI (h : AH) (a : Nat) (f : Int → Int) : AH := (h.1, hkd h, hfI h, hfR h, hfL h, u0 (haI h) a f, haR h, haL h)
def saR (h : AH) (a : Nat) (f : Int → Option Nat) : AH := (h.1, hkd h, hfI h, hfR h, hfL h, haI h, u0 (haR h) a f, haL h)
def saL (h : AH) (a : Nat) (f : Int → Int64) : AH := (h.1, hkd h, hfI h, hfR h, hfL h, haI h, haR h, u0 (haL h) a f)
def nOb (h : AH) (c : Nat) : AH := ((hlo h, hn h + 1), u0 (hkd h) (hn h) (c + 4, 0), u0 (hfI h) (hn h) (fun _ => 0), u0 (hfR h) (hn h) (fun _ => none), u0 (hfL h) (hn h) (fun _ => 0), haI h, haR h, haL h)
def nAI (h : AH) (n : Nat) : AH := ((hlo h, hn h + 1), u0 (hkd h) (hn h) (1, n), hfI h, hfR h, hfL h, u0 (haI h) (hn h) (fun _ => 0), haR h, haL h)
def nAL (h : AH) (n : Nat) : AH := ((hlo h, hn h + 1), u0 (hkd h) (hn h) (2, n), hfI h, hfR h, hfL h, haI h, haR h, u0 (haL h) (hn h) (fun _ => 0))
def nAR (h : AH) (n : Nat) : AH := ((hlo h, hn h + 1), u0 (hkd h) (hn h) (3, n), hfI h, hfR h, hfL h, haI h, u0 (haR h) (hn h) (fun _ => none), haL h)
/-- garbage: k cells that nobody knows -/
def nGb (h : AH) (k : Nat) : AH := ((hlo h, hn h + k), hkd h, hfI h, hfR h, hfL h, haI h, haR h, haL h)
def inR (z : Int) : Prop := -2147483648 ≤ z ∧ z ≤ 2147483647
def vwTy (c : Nat) : Nat → FieldType := match c with
  | 0 => tyX0
  | 1 => tyX1
  | 2 => tyX2
  | 3 => tyX3
  | 4 => tyX4
  | 5 => tyX5
  | 6 => tyX6
  | _ => tyX7
def fvr (h : AH) (q c k : Nat) (v : Value) : Prop := match vwTy c k with
  | .int => ∃ x : Int32, v = .int x ∧ x.toInt = hfI h q k
  | .boolean => ∃ x : Int32, v = .int x ∧ x.toInt = hfI h q k
  | .long => v = .long (hfL h q k)
  | _ => v = va_rf (hfR h q k)
def RC (s : State) (D : va_G) (h : AH) (H : Heap) (q : Nat) : Prop := match hkd h q with
  | (0, _) => True
  | (1, n) => ∃ cell : Cell, H[q]? = some cell ∧ s.isArrayOf cell .int ∧ cell.vm ≠ .unknown ∧ cell.slots.size = n ∧ n < 2147483648 ∧ ∀ j : Nat, j < n → ∃ x : Int32, cell.slots[j]? = some (.int x) ∧ x.toInt = haI h q j
  | (2, n) => ∃ cell : Cell, H[q]? = some cell ∧ s.isArrayOf cell .long ∧ cell.vm ≠ .unknown ∧ cell.slots.size = n ∧ n < 2147483648 ∧ ∀ j : Nat, j < n → cell.slots[j]? = some (.long (haL h q j))
  | (3, n) => ∃ (cA : ClassId) (f : Nat → Option Nat), H[q]? = some (arrV cA n (fun j => va_rf (f j))) ∧ ArrOfT s cA (.object RX4) ∧ va_RA s cA (.object RX4) ∧ n < 2147483648 ∧ ∀ j : Nat, j < n → f j = haR h q j
  | (c + 4, _) => ∃ (r : vw_C) (V : Nat → Value), vwCl[c]? = some r ∧ t_OB q (D.1 c) r.2.2 (D.2 c) H V ∧ ∀ k, k < r.2.2 → fvr h q c k (V k)
def Rel (s : State) (D : va_G) (H0 : Heap) (h : AH) (H : Heap) : Prop := hlo h = H0.size ∧ hn h = H.size ∧ H0.size ≤ H.size ∧ (∀ q : Nat, q < H0.size → H[q]? = H0[q]?) ∧ ∀ q, RC s D h H q
def agr (h h' : AH) (q : Nat) : Prop := hkd h' q = hkd h q ∧ hfI h' q = hfI h q ∧ hfR h' q = hfR h q ∧ hfL h' q = hfL h q ∧ haI h' q = haI h q ∧ haR h' q = haR h q ∧ haL h' q = haL h q
theorem RC.congr {s : State} {D : va_G} {h h' : AH} {H H' : Heap} {q : Nat} (e : agr h h' q) (eH : H'[q]? = H[q]?) (r : RC s D h H q) : RC s D h' H' q := by
  obtain ⟨e1, e2, e3, e4, e5, e6, e7⟩ := e
  unfold RC fvr t_OB at r ⊢
  rw [e1]
  simp only [e2, e3, e4, e5, e6, e7, eH]
  exact r
theorem RC.moved {s u : State} {D : va_G} {h : AH} {H : Heap} {q : Nat} (hvm : s.vm.Alike u.vm) (r : RC s D h H q) : RC u D h H q := by
  unfold RC at r ⊢
  split at r
  · trivial
  · obtain ⟨cell, h1, h2, h3⟩ := r
    exact ⟨cell, h1, State.isArrayOf_alike hvm h2, h3⟩
  · obtain ⟨cell, h1, h2, h3⟩ := r
    exact ⟨cell, h1, State.isArrayOf_alike hvm h2, h3⟩
  · obtain ⟨cA, f, h1, h2, h3, h4⟩ := r
    exact ⟨cA, f, h1, arrOfT_moved hvm h2, h3.moved hvm, h4⟩
  · exact r
theorem Rel.moved {s u : State} {D : va_G} {H0 : Heap} {h : AH} {H : Heap} (hvm : s.vm.Alike u.vm) (r : Rel s D H0 h H) : Rel u D H0 h H := ⟨r.1, r.2.1, r.2.2.1, r.2.2.2.1, fun q => (r.2.2.2.2 q).moved hvm⟩
theorem Rel.upd {s : State} {D : va_G} {H0 : Heap} {h h' : AH} {H H' : Heap} {a : Nat} (r : Rel s D H0 h H) (z : H'.size = H.size) (oq : ∀ q, q ≠ a → H'[q]? = H[q]?) (ha : hlo h ≤ a) (e1 : h'.1 = h.1) (e : ∀ q, q ≠ a → agr h h' q) (ra : RC s D h' H' a) : Rel s D H0 h' H' := by
  obtain ⟨r1, r2, r3, r4, r5⟩ := r
  refine ⟨by unfold hlo at *; rw [e1]; exact r1, by unfold hn at *; rw [e1, z]; exact r2, by rw [z]; exact r3, fun q hq => ?_, fun q => ?_⟩
  · rw [oq q (by rw [r1] at ha; omega)]
    exact r4 q hq
  · by_cases hq : q = a
    · subst hq; exact ra
    · exact (r5 q).congr (e q hq) (oq q hq)
theorem Rel.new {s : State} {D : va_G} {H0 : Heap} {h h' : AH} {H H' : Heap} (r : Rel s D H0 h H) (z : H'.size = H.size + 1) (oq : ∀ q, q < H.size → H'[q]? = H[q]?) (e1 : h'.1 = (hlo h, hn h + 1)) (e : ∀ q, q ≠ hn h → agr h h' q) (ra : RC s D h' H' (hn h)) : Rel s D H0 h' H' := by
  obtain ⟨r1, r2, r3, r4, r5⟩ := r
  refine ⟨by unfold hlo at *; rw [e1]; exact r1, by rw [z, ← r2]; show h'.1.2 = _; rw [e1], by rw [z]; omega, fun q hq => ?_, fun q => ?_⟩
  · rw [oq q (by omega)]
    exact r4 q hq
  · by_cases hq : q = hn h
    · subst hq; exact ra
    · by_cases hl : q < H.size
      · exact (r5 q).congr (e q hq) (oq q hl)
      · have e9 : hkd h' q = hkd h q := (e q hq).1
        have r9 := r5 q
        have hnone : H[q]? = none := by simp; omega
        unfold RC at r9 ⊢
        rw [e9]
        split at r9
        · trivial
        · obtain ⟨cell, h1, -⟩ := r9; rw [hnone] at h1; cases h1
        · obtain ⟨cell, h1, -⟩ := r9; rw [hnone] at h1; cases h1
        · obtain ⟨cA, f, h1, -⟩ := r9; rw [hnone] at h1; cases h1
        · obtain ⟨r, V, -, ⟨cell, h1, -⟩, -⟩ := r9; rw [hnone] at h1; cases h1
/-- locals, stack -/
def envOf : Nat → List AV → Nat → Option AV
  | _, [] => fun _ => none
  | k, v :: vs => fun j => if j = k then some v else envOf (k + acat v) vs j
def es (env : Nat → Option AV) (i : Nat) (v : AV) : Nat → Option AV := fun j => if j = i then some v else if j + 1 = i ∧ (env j).elim 0 acat = 2 then none else if j = i + 1 ∧ acat v = 2 then none else env j
def LR (n : Nat) (env : Nat → Option AV) (ls : Array Slot) : Prop := lv_wf ls ∧ ls.size = n ∧ ∀ (i : Nat) (v : AV), env i = some v → ∃ r : Value, ls[i]? = some (.val r) ∧ ab r = some v
def SR (st : List AV) (rs : List Value) : Prop := rs.map ab = st.map some
theorem SR.nil : SR [] [] := rfl
theorem SR.cons {v : AV} {r : Value} {st : List AV} {rs : List Value} (h : ab r = some v) (hs : SR st rs) : SR (v :: st) (r :: rs) := by
  unfold SR at *; simp [h, hs]
theorem SR.pop {v : AV} {st : List AV} {rs : List Value} (h : SR (v :: st) rs) : ∃ (r : Value) (rs' : List Value), rs = r :: rs' ∧ ab r = some v ∧ SR st rs' := by
  unfold SR at *
  cases rs with
  | nil => simp at h
  | cons r rs => simp at h; exact ⟨r, rs, rfl, h.1, h.2⟩
theorem SR.empty {rs : List Value} (h : SR [] rs) : rs = [] := by
  unfold SR at h; simpa using h
theorem SR.int {i : Int} {st : List AV} {rs : List Value} (h : SR (vI i :: st) rs) : ∃ (x : Int32) (rs' : List Value), rs = .int x :: rs' ∧ x.toInt = i ∧ SR st rs' := by
  obtain ⟨r, rs', e, e2, h2⟩ := h.pop
  obtain ⟨x, rfl, e3⟩ := ab_int e2
  exact ⟨x, rs', e, e3, h2⟩
theorem SR.ref {a : Nat} {st : List AV} {rs : List Value} (h : SR (vR a :: st) rs) : ∃ (rs' : List Value), rs = .ref a :: rs' ∧ SR st rs' := by
  obtain ⟨r, rs', e, e2, h2⟩ := h.pop
  rw [ab_ref e2] at e
  exact ⟨rs', e, h2⟩
theorem SR.long {a : Int64} {st : List AV} {rs : List Value} (h : SR (vL a :: st) rs) : ∃ (rs' : List Value), rs = .long a :: rs' ∧ SR st rs' := by
  obtain ⟨r, rs', e, e2, h2⟩ := h.pop
  rw [ab_long e2] at e
  exact ⟨rs', e, h2⟩
theorem SR.dbl {a : UInt64} {st : List AV} {rs : List Value} (h : SR (vD a :: st) rs) : ∃ (rs' : List Value), rs = .double a :: rs' ∧ SR st rs' := by
  obtain ⟨r, rs', e, e2, h2⟩ := h.pop
  rw [ab_dbl e2] at e
  exact ⟨rs', e, h2⟩
theorem SR.sum {st : List AV} {rs : List Value} (h : SR st rs) : (rs.map fun v => v.category).sum = (st.map acat).sum := by
  induction st generalizing rs with
  | nil => rw [h.empty]; rfl
  | cons v st ih =>
    obtain ⟨r, rs', rfl, e, h2⟩ := h.pop
    simp [ab_cat e, ih h2]
theorem SR.split {as st : List AV} {rs : List Value} (h : SR (as ++ st) rs) : ∃ As rs' : List Value, rs = As ++ rs' ∧ SR as As ∧ SR st rs' := by
  induction as generalizing rs with
  | nil => exact ⟨[], rs, rfl, SR.nil, h⟩
  | cons v as ih =>
    obtain ⟨r, rs', rfl, e, h2⟩ := h.pop
    obtain ⟨As, rs2, rfl, e2, h3⟩ := ih h2
    exact ⟨r :: As, rs2, rfl, e2.cons e, h3⟩
theorem SR.rev {as : List AV} {As : List Value} (h : SR as.reverse As) : SR as As.reverse := by
  unfold SR at *
  rw [List.map_reverse, h, List.map_reverse, List.reverse_reverse]
theorem SR.len {as : List AV} {As : List Value} (h : SR as As) : As.length = as.length := by
  unfold SR at h
  have := congrArg List.length h
  simpa using this
/-- the tables' words that a call may be paid with -/
def xTb : List Cond := lw_tbl.filter goodWord
theorem xTb_in {w : Cond} (h : w ∈ lw_tbl) (g : goodWord w = true) : w ∈ xTb := List.mem_filter.mpr ⟨h, g⟩
theorem xTb_of : ∀ w ∈ xTb, w ∈ lw_tbl := fun _ h => (List.mem_filter.mp h).1
