/-! STATICS, MATH, COPIES, CALLS, METHODS -/
theorem good_all : GoodIn xTb xTb := fun w h => ⟨h, good_of_word (List.mem_filter.mp h).2⟩
def PcA (G : GG) (As : List Value) (h : AH) : Array Value → State → Prop := fun v U => v = As.toArray ∧ Rel U G.1 G.2.1 h U.heap ∧ va_K G.1 vwCl [] U ∧ ZF U G.2.1 G.2.2 ∧ NF U
def frA (G : GG) : Addr → Prop := fun q => G.2.1.size ≤ q
def QG (G : GG) (Q : Option AV → AH → Prop) : Array Value → State → Outcome → State → Prop := fun _ _ o t => ∃ (r : Option Value) (v : Option AV) (h' : AH), o = .returned r ∧ r.map ab = v.map some ∧ Q v h' ∧ Rel t G.1 G.2.1 h' t.heap
def oI (Q : Int → AH → Prop) : Option AV → AH → Prop := fun v h => ∃ i, v = some (vI i) ∧ Q i h
def oR (Q : Nat → AH → Prop) : Option AV → AH → Prop := fun v h => ∃ i, v = some (vR i) ∧ Q i h
def oL (Q : Int64 → AH → Prop) : Option AV → AH → Prop := fun v h => ∃ i, v = some (vL i) ∧ Q i h
def oD (Q : UInt64 → AH → Prop) : Option AV → AH → Prop := fun v h => ∃ i, v = some (vD i) ∧ Q i h
def oV (Q : AH → Prop) : Option AV → AH → Prop := fun v h => v = none ∧ Q h
/-- a join: the rest once, its entries many -/
def jn {α : Type} (K : α) (B : α → Prop) : Prop := B K
def cpI (f g : Int → Int) (sp dp n : Int) : Int → Int := fun j => if dp ≤ j ∧ j < dp + n then f (sp + (j - dp)) else g j
theorem envOf_in {as : List AV} : ∀ {As : List Value} {k i : Nat} {v : AV}, As.map ab = as.map some → envOf k as i = some v → ∃ r, (i, r) ∈ lv_args k As ∧ ab r = some v := by
  induction as with
  | nil => intro As k i v _ h; cases h
  | cons a as ih =>
    intro As k i v hA h
    cases As with
    | nil => simp at hA
    | cons A As =>
      simp only [List.map_cons, List.cons.injEq] at hA
      obtain ⟨h1, h2⟩ := hA
      unfold envOf at h
      unfold lv_args
      split at h
      next e => subst e; cases h; exact ⟨A, List.mem_cons_self, h1⟩
      next e =>
        have e2 : (if A.category = 2 then k + 2 else k + 1) = k + acat a := by
          rw [ab_cat h1]
          have : acat a = 1 ∨ acat a = 2 := by
            rcases a with _ | _ | _ <;> simp [acat]
          rcases this with q | q <;> simp [q]
        rw [e2]
        obtain ⟨r, r1, r2⟩ := ih h2 h
        exact ⟨r, List.mem_cons_of_mem _ r1, r2⟩
theorem sl_len {as : List AV} : ∀ {As : List Value}, As.map ab = as.map some → (lg_sl As).length = (as.map acat).sum := by
  induction as with
  | nil => intro As h; simp at h; subst h; rfl
  | cons a as ih =>
    intro As hA
    cases As with
    | nil => simp at hA
    | cons A As =>
      simp only [List.map_cons, List.cons.injEq] at hA
      obtain ⟨h1, h2⟩ := hA
      have e1 : acat a = A.category := (ab_cat h1).symm
      have e2 := ih h2
      unfold lg_sl at e2 ⊢
      rw [List.flatMap_cons, List.length_append, e2, List.map_cons, List.sum_cons, e1]
      congr 1
      rcases lv_cat A with q | q <;> simp [q]
theorem met_of {G : GG} {l : Launch} {y : MethodName} {cc : ByteArray} {maxL : Nat} {ret : Option FieldType} {rm : Room} {mc ms : Nat} {as : List AV} {As : List Value} {h : AH} {Q : Option AV → AH → Prop} (hA : As.map ab = as.map some) (hy : plainName y.cls = true) (hlen : (as.map acat).sum ≤ maxL)
    (body : ∀ (p : Program) (e : Env) (s : State) (m : MethodId) (args : Array Value) (below : List Frame) (meth : Method) (c : Code), CF G p s m args meth c cc y.cls → c.maxLocals = maxL → meth.sig.returnType = ret → meth.name = y.name → AW G p l e rm s m args below meth c 0 0 (MQ below (QG G Q) args s mc ms (frA G)) 0 (envOf 0 as) [] h) :
    Met l y (.code y cc maxL ret :: xTb) rm (PcA G As h) (QG G Q) mc ms (frA G) := by
  refine MetFree.of_bodyS (code := cc) (maxLocals := maxL) (ret := ret) hy ?_ ?_
  · intro args s m h hn
    obtain ⟨meth, c, h1, h2, h3, h4, h5, h6, -, -⟩ := Cond.code_spec hn (atoms_spec (ws := .code y cc maxL ret :: xTb) h _ List.mem_cons_self)
    exact ⟨meth, c, h1, h2, h3, h4, h5, h6⟩
  · intro p e s m args below meth c s₁ B hml hP _
    have hh0 : s₁.heap = s.heap := by rw [B.state]; rfl
    obtain ⟨rfl, hrel, hK, hZ, hN⟩ := hP
    have hts := atoms_spec (ws := .code y cc maxL ret :: xTb) B.pre
    have C : CF G p s m As.toArray meth c cc y.cls := ⟨B.exec, B.bytes, findClass_of_methodNamed B.named, fun w hw => hts w (List.mem_cons_of_mem _ hw), B.notSynchronized, hK, hZ, hN⟩
    have hE := lv_entry As (n := maxL) (by rw [sl_len hA]; exact hlen)
    have K := body p e s m As.toArray below meth c C hml B.returns (name_of_methodNamed B.named B.method).1 ((lg_sl As ++ List.replicate (maxL - (lg_sl As).length) Slot.unset).toArray) [] s.heap [] ⟨hE.2.1, by rw [hml]; exact hE.1, fun i v hi => by
      obtain ⟨r, r1, r2⟩ := envOf_in hA hi
      exact ⟨r, hE.2.2 (i, r) r1, r2⟩⟩ SR.nil hrel (fun q hq => by cases hq)
    have K2 : W p l e (headSpec (.code y cc maxL ret :: xTb) rm).room s m As.toArray below meth c s.heap [] 0 0 (MQ below (QG G Q) As.toArray s mc ms (frA G)) (entryFrame m As.toArray maxL) := by
      rw [lg_entry_eq]; exact K
    obtain ⟨t, a1, o, b1, b2, b3⟩ := K2 s₁ hh0 (Stand.of_body B)
    exact ⟨t, o, a1, b1, b2, ⟨b3.1, b3.2⟩⟩
section AWC
variable {G : GG} {p : Program} {l : Launch} {e : Env} {R : Room} {s : State} {m : MethodId} {args : Array Value} {below : List Frame} {meth : Method} {c : Code} {bc bs : Nat} {Qf : State → Prop} {cc : ByteArray} {own : String}
variable {pc : Nat} {env : Nat → Option AV} {st : List AV} {h : AH}
theorem aw_gets (C : CF G p s m args meth c cc own) {idx v : Nat} {n : String} (hZ : va_Z "TextMorph" n "[I" (.ref v) (fun q => G.2.1.size ≤ q) s G.2.1) (hw : Cond.fieldLink own idx "TextMorph" n "[I" ∈ xTb) (hdg : decode cc pc = .ok (.getstatic idx, 3)) (kk : AW G p l e R s m args below meth c bc bs Qf (pc + 3) env (vR v :: st) h) : AW G p l e R s m args below meth c bc bs Qf pc env st h := by
  intro ls rs H locs hL hS hR hf
  obtain ⟨cf, kf, fi, f, a, cell, h1, h2, h3, h4, h5, h6, h7, h8⟩ := hZ
  exact W.gets C.1 C.2.1 C.2.2.1 (C.2.2.2.1 _ hw) h1 h2 h3 h4 (by rw [hR.2.2.2.1 a (Nat.not_le.mp h8)]; exact h5) (fun e => by rw [e] at h6; cases h6) h7 rfl hdg (kk ls _ H locs hL (hS.cons rfl) hR hf)
theorem aw_getsN (C : CF G p s m args meth c cc own) {idx v : Nat} {n host : String} (hZ : va_Z "TextMorph" n "[I" (.ref v) (fun q => G.2.1.size ≤ q) s G.2.1) (hw : nwF = Cond.fieldLinkNest own idx "TextMorph" n "[I" host) (hdg : decode cc pc = .ok (.getstatic idx, 3)) (kk : AW G p l e R s m args below meth c bc bs Qf (pc + 3) env (vR v :: st) h) : AW G p l e R s m args below meth c bc bs Qf pc env st h := by
  intro ls rs H locs hL hS hR hf
  obtain ⟨cf, kf, fi, f, a, cell, h1, h2, h3, h4, h5, h6, h7, h8⟩ := hZ
  exact va_WgetsN C.1 C.2.1 C.2.2.1 (by rw [← hw]; exact va_Nw.use rfl C.2.2.2.2.2.2.2.2.1) h1 h2 h3 h4 (by rw [hR.2.2.2.1 a (Nat.not_le.mp h8)]; exact h5) (fun e => by rw [e] at h6; cases h6) h7 rfl hdg (kk ls _ H locs hL (hS.cons rfl) hR hf)
theorem aw_mmax (C : CF G p s m args meth c cc own) {idx : Nat} (hw : Cond.methodLink own idx Lib.Math.max.name ∈ xTb) (hw2 : Cond.static Lib.Math.max.name ∈ xTb) (hw3 : Cond.initialized "java/lang/Math" ∈ xTb) (hw4 : Cond.code Lib.Math.max.name Lib.Math.max.code 2 (some .int) ∈ xTb) (hR1 : 1 ≤ R.frames ∧ 21 ≤ R.locals ∧ bc ≤ R.cells ∧ bs ≤ R.slots) (hr : (st.map acat).sum ≤ 8) (hdg : decode cc pc = .ok (.invokestatic idx, 3)) {a b : Int} (kk : AW G p l e R s m args below meth c bc bs Qf (pc + 3) env (vI (if a < b then b else a) :: st) h) : AW G p l e R s m args below meth c bc bs Qf pc env (vI b :: vI a :: st) h := by
  intro ls rs H locs hL hS hR hf
  obtain ⟨y, rs0, rfl, rfl, hS0⟩ := hS.int
  obtain ⟨x, rs1, rfl, rfl, hS1⟩ := hS0.int
  refine va_mmax C.1 C.2.1 hL.2.1.symm C.2.2.1 (C.2.2.2.1 _ hw) (C.2.2.2.1 _ hw2) (C.2.2.2.1 _ hw3) (C.2.2.2.1 _ hw4) hR1.1 (by rw [hS1.sum]; omega) hR1.2.2.1 hR1.2.2.2 hdg (kk ls _ H locs hL (hS1.cons ?_) hR hf)
  by_cases q : x < y
  · rw [if_pos q, if_pos (toInt_lt.mp q)]; rfl
  · rw [if_neg q, if_neg (fun z => q (toInt_lt.mpr z))]; rfl
theorem aw_mmin (C : CF G p s m args meth c cc own) {idx : Nat} (hw : Cond.methodLink own idx Lib.Math.min.name ∈ xTb) (hw2 : Cond.static Lib.Math.min.name ∈ xTb) (hw3 : Cond.initialized "java/lang/Math" ∈ xTb) (hw4 : Cond.code Lib.Math.min.name Lib.Math.min.code 2 (some .int) ∈ xTb) (hR1 : 1 ≤ R.frames ∧ 21 ≤ R.locals ∧ bc ≤ R.cells ∧ bs ≤ R.slots) (hr : (st.map acat).sum ≤ 8) (hdg : decode cc pc = .ok (.invokestatic idx, 3)) {a b : Int} (kk : AW G p l e R s m args below meth c bc bs Qf (pc + 3) env (vI (if b < a then b else a) :: st) h) : AW G p l e R s m args below meth c bc bs Qf pc env (vI b :: vI a :: st) h := by
  intro ls rs H locs hL hS hR hf
  obtain ⟨y, rs0, rfl, rfl, hS0⟩ := hS.int
  obtain ⟨x, rs1, rfl, rfl, hS1⟩ := hS0.int
  refine va_mmin C.1 C.2.1 hL.2.1.symm C.2.2.1 (C.2.2.2.1 _ hw) (C.2.2.2.1 _ hw2) (C.2.2.2.1 _ hw3) (C.2.2.2.1 _ hw4) hR1.1 (by rw [hS1.sum]; omega) hR1.2.2.1 hR1.2.2.2 hdg (kk ls _ H locs hL (hS1.cons ?_) hR hf)
  by_cases q : y < x
  · rw [if_pos q, if_pos (toInt_lt.mp q)]; rfl
  · rw [if_neg q, if_neg (fun z => q (toInt_lt.mpr z))]; rfl
theorem aw_mabs (C : CF G p s m args meth c cc own) {idx : Nat} (hw : Cond.methodLink own idx Lib.Math.abs.name ∈ xTb) (hw2 : Cond.static Lib.Math.abs.name ∈ xTb) (hw3 : Cond.initialized "java/lang/Math" ∈ xTb) (hw4 : Cond.code Lib.Math.abs.name Lib.Math.abs.code 1 (some .int) ∈ xTb) (hR1 : 1 ≤ R.frames ∧ 21 ≤ R.locals ∧ bc ≤ R.cells ∧ bs ≤ R.slots) (hr : (st.map acat).sum ≤ 8) (hdg : decode cc pc = .ok (.invokestatic idx, 3)) {a : Int} (ha : inR (0 - a)) (kk : AW G p l e R s m args below meth c bc bs Qf (pc + 3) env (vI (if 0 ≤ a then a else 0 - a) :: st) h) : AW G p l e R s m args below meth c bc bs Qf pc env (vI a :: st) h := by
  intro ls rs H locs hL hS hR hf
  obtain ⟨x, rs1, rfl, rfl, hS1⟩ := hS.int
  refine va_mabs C.1 C.2.1 hL.2.1.symm C.2.2.1 (C.2.2.2.1 _ hw) (C.2.2.2.1 _ hw2) (C.2.2.2.1 _ hw3) (C.2.2.2.1 _ hw4) hR1.1 (by rw [hS1.sum]; omega) hR1.2.2.1 hR1.2.2.2 hdg (kk ls _ H locs hL (hS1.cons ?_) hR hf)
  by_cases q : 0 ≤ x
  · rw [if_pos q, if_pos (toInt_ge0.mp q)]; rfl
  · rw [if_neg q, if_neg (fun z => q (toInt_ge0.mpr z))]
    show some (vI (0 - x).toInt) = _
    rw [inR_sub (show inR ((0 : Int32).toInt - x.toInt) from ha)]; rfl
theorem aw_d2raw (C : CF G p s m args meth c cc own) {idx : Nat} (hw : Cond.methodLink own idx ⟨"java/lang/Double", "doubleToRawLongBits", "(D)J"⟩ ∈ xTb) (hw2 : Cond.native ⟨"java/lang/Double", "doubleToRawLongBits", "(D)J"⟩ ∈ xTb) (hw3 : Cond.static ⟨"java/lang/Double", "doubleToRawLongBits", "(D)J"⟩ ∈ xTb) (hw4 : Cond.initialized "java/lang/Double" ∈ xTb) (hR1 : 1 ≤ R.frames ∧ 23 ≤ R.locals) (hr : (st.map acat).sum ≤ 8) (hdg : decode cc pc = .ok (.invokestatic idx, 3)) {a : UInt64} (kk : AW G p l e R s m args below meth c bc bs Qf (pc + 3) env (vL a.toInt64 :: st) h) : AW G p l e R s m args below meth c bc bs Qf pc env (vD a :: st) h := by
  intro ls rs H locs hL hS hR hf
  obtain ⟨rs1, rfl, hS1⟩ := hS.dbl
  exact vn_d2l C.1 C.2.1 hL.2.1.symm C.2.2.1 (C.2.2.2.1 _ hw) (C.2.2.2.1 _ hw2) (C.2.2.2.1 _ hw3) (C.2.2.2.1 _ hw4) hR1.1 (by rw [hS1.sum]; omega) hdg (kk ls _ H locs hL (hS1.cons rfl) hR hf)
theorem aw_copy (C : CF G p s m args meth c cc own) {idx : Nat} (hw : Cond.methodLink own idx arraycopyName ∈ xTb) (hw2 : Cond.native arraycopyName ∈ xTb) (hw3 : Cond.static arraycopyName ∈ xTb) (hw4 : Cond.initialized "java/lang/System" ∈ xTb) (hR1 : 1 ≤ R.frames ∧ 40 ≤ R.locals) (hr : (st.map acat).sum ≤ 8) (hdg : decode cc pc = .ok (.invokestatic idx, 3)) {a b na nb : Nat} {sp dp n : Int} (ha : hkd h a = (1, na)) (hb : hkd h b = (1, nb) ∧ hlo h ≤ b) (hz : 0 ≤ sp ∧ 0 ≤ dp ∧ 0 ≤ n ∧ sp + n ≤ (na : Int) ∧ dp + n ≤ (nb : Int)) (kk : AW G p l e R s m args below meth c bc bs Qf (pc + 3) env st (saI h b (cpI (haI h a) (haI h b) sp dp n))) : AW G p l e R s m args below meth c bc bs Qf pc env (vI n :: vI dp :: vR b :: vI sp :: vR a :: st) h := by
  intro ls rs H locs hL hS hR hf
  obtain ⟨n', rs1, rfl, rfl, hS1⟩ := hS.int
  obtain ⟨dp', rs2, rfl, rfl, hS2⟩ := hS1.int
  obtain ⟨rs3, rfl, hS3⟩ := hS2.ref
  obtain ⟨sp', rs4, rfl, rfl, hS4⟩ := hS3.int
  obtain ⟨rs5, rfl, hS5⟩ := hS4.ref
  obtain ⟨ca, c1, c2, c3, c4, c5, c6⟩ := (hR.2.2.2.2 a).arrI ha
  obtain ⟨cb, d1, d2, d3, d4, d5, d6⟩ := (hR.2.2.2.2 b).arrI hb.1
  obtain ⟨z1, z2, z3, z4, z5⟩ := hz
  have es : ((sp'.toNatClampNeg : Nat) : Int) = sp'.toInt := by show ((sp'.toInt.toNat : Nat) : Int) = _; omega
  have ed : ((dp'.toNatClampNeg : Nat) : Int) = dp'.toInt := by show ((dp'.toInt.toNat : Nat) : Int) = _; omega
  have en : ((n'.toNatClampNeg : Nat) : Int) = n'.toInt := by show ((n'.toInt.toNat : Nat) : Int) = _; omega
  obtain ⟨o1, ka, hka, cma, hkka⟩ := c2
  obtain ⟨o2, kb, hkb, cmb, hkkb⟩ := id d2
  have hval : ∀ i, i < n'.toNatClampNeg → ∃ x : Int32, ca.slots.getD (sp'.toNatClampNeg + i) .null = .int x ∧ x.toInt = haI h a (sp'.toInt + (i : Int)) := by
    intro i hi
    obtain ⟨x, x1, x2⟩ := c6 (sp'.toNatClampNeg + i) (by omega)
    refine ⟨x, by rw [Array.getD_eq_getD_getElem?, x1]; rfl, ?_⟩
    rw [x2]; congr 1; omega
  intro T hT X
  obtain ⟨vm', X', step⟩ := X.arraycopy C.1 C.2.2.1 (C.2.2.2.1 _ hw) (C.2.2.2.1 _ hw2) (C.2.2.2.1 _ hw3) (C.2.2.2.1 _ hw4) (src := a) (dst := b) (cs := ca) (cd := cb) (srcPos := sp') (destPos := dp') (n := n') (by rw [hT]; exact c1) (by rw [hT]; exact d1) o1 o2 c3 d3 hka hkb hkka hkkb rfl
    (by rw [toInt_lt0]; omega) (by rw [toInt_lt0]; omega) (by rw [toInt_lt0]; omega) (by rw [c4]; omega) (by rw [d4]; omega)
    (fun vm₁ _ i hi => by
      obtain ⟨x, x1, -⟩ := hval i hi
      rw [x1]
      exact ⟨rfl, trivial⟩)
    (g := F0 m pc ls (.int n' :: .int dp' :: .ref b :: .int sp' :: .ref a :: rs5)) rfl hL.2.1 (rest := rs5) rfl (by rw [C.2.1]; exact hdg) hR1.1 (by
      have hw9 : nativeFrameWords "java/lang/System" "arraycopy" 5 + 11 ≤ 32 := by decide
      show 2 * 0 + _ + _ ≤ _
      rw [hS5.sum]; omega)
  have hlen : (ca.stretch sp'.toNatClampNeg n'.toNatClampNeg).length = n'.toNatClampNeg := by simp [Cell.stretch]
  have hl : b < H.size := (Array.getElem?_eq_some_iff.mp d1).1
  have hheap : ((T.setVm vm').setCell b (copied ca cb sp' dp' n')).heap = H.setIfInBounds b (copied ca cb sp' dp' n') := by rw [← hT]; rfl
  have hfacts := Cell.storeRun_facts cb dp'.toNatClampNeg (ca.stretch sp'.toNatClampNeg n'.toNatClampNeg)
  obtain ⟨t, a1, b1⟩ := kk ls rs5 (H.setIfInBounds b (copied ca cb sp' dp' n')) _ hL hS5 (hR.upd (a := b) (by simp) (fun q hq => by simp [Array.getElem?_setIfInBounds, Ne.symm hq]) hb.2 rfl agr_saI (by
      unfold RC
      rw [show hkd (saI h b (cpI (haI h a) (haI h b) sp'.toInt dp'.toInt n'.toInt)) b = (1, nb) from hb.1]
      refine ⟨copied ca cb sp' dp' n', by simp [Array.getElem?_setIfInBounds, hl], ?_, ?_, ?_, d5, fun j hj => ?_⟩
      · refine ⟨fun k hk => o2 k (by rw [← hfacts.2.1]; exact hk), kb, ?_, cmb, hkkb⟩
        show s.vm.classes[(cb.storeRun dp'.toNatClampNeg (ca.stretch sp'.toNatClampNeg n'.toNatClampNeg)).cls]? = _
        rw [hfacts.1]; exact hkb
      · show (cb.storeRun dp'.toNatClampNeg (ca.stretch sp'.toNatClampNeg n'.toNatClampNeg)).vm ≠ _
        rw [hfacts.2.1]; exact d3
      · show (cb.storeRun dp'.toNatClampNeg (ca.stretch sp'.toNatClampNeg n'.toNatClampNeg)).slots.size = _
        rw [hfacts.2.2.1]; exact d4
      · rw [saI_s]
        show ∃ x, (cb.storeRun dp'.toNatClampNeg (ca.stretch sp'.toNatClampNeg n'.toNatClampNeg)).slots[j]? = _ ∧ _
        rw [Cell.storeRun_get _ _ _ _ (by rw [hlen, d4]; omega), hlen]
        unfold cpI
        by_cases hin : dp'.toNatClampNeg ≤ j ∧ j < dp'.toNatClampNeg + n'.toNatClampNeg
        · rw [if_pos hin, if_pos (by omega)]
          obtain ⟨x, x1, x2⟩ := hval (j - dp'.toNatClampNeg) (by omega)
          refine ⟨x, ?_, ?_⟩
          · unfold Cell.stretch
            rw [List.getElem?_map, List.getElem?_range (by omega)]
            show some (ca.slots.getD (sp'.toNatClampNeg + (j - dp'.toNatClampNeg)) .null) = _
            rw [x1]
          · rw [x2]; congr 1; omega
        · rw [if_neg hin, if_neg (by omega)]
          exact d6 j hj)) (by
      intro q hq
      rcases List.mem_append.mp hq with hq | hq
      · exact hf q hq
      · obtain ⟨z, -, hz⟩ := List.mem_map.mp hq
        rw [← hz]
        show G.2.1.size ≤ b
        rw [← hR.1]; exact hb.2) _ hheap X'
  exact ⟨t, step t a1, b1⟩
theorem aw_objInit (C : CF G p s m args meth c cc own) {idx : Nat} (hw : Cond.methodLink own idx Lib.objectInit ∈ xTb) (hw2 : Cond.instanceMethod Lib.objectInit ∈ xTb) (hw3 : Cond.code Lib.objectInit ⟨#[0xb1]⟩ 1 none ∈ xTb) (hR1 : 1 ≤ R.frames ∧ 20 ≤ R.locals) (hr : (st.map acat).sum ≤ 8) (hdg : decode cc pc = .ok (.invokespecial idx, 3)) {a : Nat} (kk : AW G p l e R s m args below meth c bc bs Qf (pc + 3) env st h) : AW G p l e R s m args below meth c bc bs Qf pc env (vR a :: st) h := by
  intro ls rs H locs hL hS hR hf
  obtain ⟨rs1, rfl, hS1⟩ := hS.ref
  exact W.objInit C.1 C.2.1 C.2.2.1 (C.2.2.2.1 _ hw) (C.2.2.2.1 _ hw2) (C.2.2.2.1 _ hw3) rfl hL.2.1 rfl hdg hR1.1 (by show 2 * 0 + _ + 12 ≤ _; rw [hS1.sum]; omega) (kk ls _ H locs hL hS1 hR hf)
theorem aw_run {mc ms : Nat} {Q : Option AV → AH → Prop} {ls : Array Slot} {rs rest : List Value} {H : Heap} {locs : List Loc} {a : Array Value} (hrun : va_Run p l e R s m args below meth c H locs bc bs mc ms (F0 m pc ls rs) rest (QG G Q a) (frA G)) (hL : LR c.maxLocals env ls) (hS : SR st rest) (hf : ∀ q ∈ locs, G.2.1.size ≤ q.base)
    (kk : ∀ (v : Option AV) (h' : AH), Q v h' → AW G p l e R s m args below meth c (bc + mc) (bs + ms) Qf (pc + 3) env (v.toList ++ st) h') : W p l e R s m args below meth c H locs bc bs Qf (F0 m pc ls rs) := by
  intro T hT X
  obtain ⟨v, st₀, t, T', L, h0, X', hLf, e1, e2, ⟨r, av, h', hv, hav, hq, hrel⟩, st1⟩ := hrun T hT X
  cases hv
  have hal : t.vm.Alike s.vm := by rw [← e2]; exact (X'.warmed.alike).symm
  have hrel2 : Rel s G.1 G.2.1 h' T'.heap := by rw [e1]; exact hrel.moved hal
  have hS2 : SR (av.toList ++ st) (v.toList ++ rest) := by
    cases v with
    | none => cases av with
      | none => exact hS
      | some _ => simp at hav
    | some w => cases av with
      | none => simp at hav
      | some z => exact hS.cons (by simpa using hav)
  obtain ⟨t2, a1, b1⟩ := kk av h' hq ls _ T'.heap (locs ++ L) hL hS2 hrel2 (fun q hq => by
    rcases List.mem_append.mp hq with hq | hq
    · exact hf q hq
    · exact hLf q hq) T' rfl X'
  exact ⟨t2, st1 t2 a1, b1⟩
theorem PcA.blind {As : List Value} {h : AH} : FrameBlind (PcA G As h) := fun a U g mk q => ⟨q.1, q.2.1.moved (u := U.calling g mk a) (Vm.Alike.refl U.vm), va_K.moved (u := U) (U := U.calling g mk a) (Vm.Alike.refl U.vm) q.2.2.1, q.2.2.2.1.moved (u := U.calling g mk a) (Vm.Alike.refl U.vm), NF.same (u := U) (U := U.calling g mk a) rfl q.2.2.2.2⟩
theorem PcA.at {As : List Value} {H : Heap} (C : CF G p s m args meth c cc own) (hR : Rel s G.1 G.2.1 h H) : ∀ U : State, U.heap = H → s.WarmedH U.vm → PcA G As h As.toArray U := fun U hU hW => ⟨rfl, by rw [hU]; exact hR.moved hW.alike, va_K.moved hW.alike C.2.2.2.2.2.1, C.2.2.2.2.2.2.1.moved hW.alike, C.2.2.2.2.2.2.2.warm hW⟩
theorem good_cons {y : MethodName} {bytes : ByteArray} {maxL : Nat} {ret : Option FieldType} (hw : Cond.code y bytes maxL ret ∈ xTb) : GoodIn xTb (.code y bytes maxL ret :: xTb) := fun w h => by
  rcases List.mem_cons.mp h with rfl | h
  · exact good_all _ hw
  · exact good_all _ h
theorem aw_callV (C : CF G p s m args meth c cc own) {ci idx maxL mc ms b : Nat} {Cn : String} {T : u_T} {N : Nat} {y : MethodName} {bytes : ByteArray} {ret : Option FieldType} {rm : Room} {Q : Option AV → AH → Prop} {as st0 : List AV} (I : CI ci Cn T N)
    (hM : ∀ As : List Value, As.map ab = (vR b :: as).map some → Met l y (.code y bytes maxL ret :: xTb) rm (PcA G As h) (QG G Q) mc ms (frA G))
    (hw : Cond.methodLink own idx y ∈ xTb) (hw2 : Cond.instanceMethod y ∈ xTb) (hw3 : Cond.selects y.cls y y ∈ xTb) (hw4 : Cond.initialized y.cls ∈ xTb) (hw5 : Cond.code y bytes maxL ret ∈ xTb) (hrm : rm.cells = mc ∧ rm.slots = ms)
    (hd : y.cls = Cn ∧ y.cls ≠ "java/lang/invoke/MethodHandle" ∧ y.cls ≠ "java/lang/invoke/VarHandle" ∧ (parseMethodDescriptor y.desc).map (fun d => d.parameters.length) = some as.length) (hR1 : rm.frames + 1 ≤ R.frames ∧ 8 + (maxL + 11) + rm.locals ≤ R.locals) (hR2 : bc + mc ≤ R.cells ∧ bs + ms ≤ R.slots) (hr : (st.map acat).sum ≤ 8)
    (hdg : decode cc pc = .ok (.invokevirtual idx, 3)) (hst : st0 = as.reverse ++ vR b :: st) (hb : (hkd h b).1 = ci + 4)
    (kk : ∀ (v : Option AV) (h' : AH), Q v h' → AW G p l e R s m args below meth c (bc + mc) (bs + ms) Qf (pc + 3) env (v.toList ++ st) h') : AW G p l e R s m args below meth c bc bs Qf pc env st0 h := by
  subst hst
  intro ls rs H locs hL hS hR hf
  obtain ⟨Ar, rs1, rfl, hA, hS1⟩ := hS.split
  obtain ⟨rs2, rfl, hS2⟩ := hS1.ref
  obtain ⟨V, ⟨cell, v1, v2, v3, -⟩, -⟩ := (hR.2.2.2.2 b).obj I hb
  have hA' : SR as Ar.reverse := hA.rev
  have hM' := hM (.ref b :: Ar.reverse) (by have := hA'; unfold SR at this; simp [this]; rfl)
  obtain ⟨hd1, hd2, hd3, hd4⟩ := hd
  refine aw_run (va_runV (As := Ar.reverse) (rest := rs2) (C := Cn) ⟨C.1, C.2.1, rfl, C.2.2.1, C.2.2.2.1⟩ hM' ⟨callB_of as.length C.2.2.2.1 (good_cons hw5) rfl hrm.1 hrm.2 (C.2.2.2.1 _ hw4) (C.2.2.2.1 _ hw) ⟨hd2, hd3, hd4⟩ hR1, C.2.2.2.1 _ hw2, by rw [← hd1]; exact C.2.2.2.1 _ hw3⟩ ⟨PcA.blind, ⟨cell, v1, by rw [v3]; rfl, by rw [v2]; exact (C.2.2.2.2.2.1.1 ci _ I.1).2.1⟩, PcA.at C hR⟩ rfl hA'.len hL.2.1 (by simp) (by show 2 * 0 + _ ≤ 8; rw [hS2.sum]; omega) hdg hR2) hL hS2 hf kk
theorem aw_callS (C : CF G p s m args meth c cc own) {idx maxL mc ms : Nat} {y : MethodName} {bytes : ByteArray} {ret : Option FieldType} {rm : Room} {Q : Option AV → AH → Prop} {as st0 : List AV}
    (hM : ∀ As : List Value, As.map ab = as.map some → Met l y (.code y bytes maxL ret :: xTb) rm (PcA G As h) (QG G Q) mc ms (frA G))
    (hw : Cond.methodLink own idx y ∈ xTb) (hw2 : Cond.static y ∈ xTb) (hw4 : Cond.initialized y.cls ∈ xTb) (hw5 : Cond.code y bytes maxL ret ∈ xTb) (hrm : rm.cells = mc ∧ rm.slots = ms)
    (hd : y.cls ≠ "java/lang/invoke/MethodHandle" ∧ y.cls ≠ "java/lang/invoke/VarHandle" ∧ (parseMethodDescriptor y.desc).map (fun d => d.parameters.length) = some as.length) (hR1 : rm.frames + 1 ≤ R.frames ∧ 8 + (maxL + 11) + rm.locals ≤ R.locals) (hR2 : bc + mc ≤ R.cells ∧ bs + ms ≤ R.slots) (hr : (st.map acat).sum ≤ 8)
    (hdg : decode cc pc = .ok (.invokestatic idx, 3)) (hst : st0 = as.reverse ++ st)
    (kk : ∀ (v : Option AV) (h' : AH), Q v h' → AW G p l e R s m args below meth c (bc + mc) (bs + ms) Qf (pc + 3) env (v.toList ++ st) h') : AW G p l e R s m args below meth c bc bs Qf pc env st0 h := by
  subst hst
  intro ls rs H locs hL hS hR hf
  obtain ⟨Ar, rs2, rfl, hA, hS2⟩ := hS.split
  have hA' : SR as Ar.reverse := hA.rev
  have hM' := hM Ar.reverse hA'
  exact aw_run (va_runS (As := Ar.reverse) (rest := rs2) ⟨C.1, C.2.1, rfl, C.2.2.1, C.2.2.2.1⟩ hM' ⟨callB_of as.length C.2.2.2.1 (good_cons hw5) rfl hrm.1 hrm.2 (C.2.2.2.1 _ hw4) (C.2.2.2.1 _ hw) hd hR1, C.2.2.2.1 _ hw2⟩ ⟨PcA.blind, PcA.at C hR⟩ rfl hA'.len hL.2.1 (by simp) (by show 2 * 0 + _ ≤ 8; rw [hS2.sum]; omega) hdg hR2) hL hS2 hf kk
theorem aw_callSN (C : CF G p s m args meth c cc own) {idx maxL mc ms : Nat} {y : MethodName} {host : String} {bytes : ByteArray} {ret : Option FieldType} {rm : Room} {Q : Option AV → AH → Prop} {as st0 : List AV}
    (hM : ∀ As : List Value, As.map ab = as.map some → Met l y (.code y bytes maxL ret :: xTb) rm (PcA G As h) (QG G Q) mc ms (frA G))
    (hw : nwM = Cond.methodLinkNest own idx y host) (hw2 : Cond.static y ∈ xTb) (hw4 : Cond.initialized y.cls ∈ xTb) (hw5 : Cond.code y bytes maxL ret ∈ xTb) (hrm : rm.cells = mc ∧ rm.slots = ms)
    (hd : y.cls ≠ "java/lang/invoke/MethodHandle" ∧ y.cls ≠ "java/lang/invoke/VarHandle" ∧ (parseMethodDescriptor y.desc).map (fun d => d.parameters.length) = some as.length) (hR1 : rm.frames + 1 ≤ R.frames ∧ 8 + (maxL + 11) + rm.locals ≤ R.locals) (hR2 : bc + mc ≤ R.cells ∧ bs + ms ≤ R.slots) (hr : (st.map acat).sum ≤ 8)
    (hdg : decode cc pc = .ok (.invokestatic idx, 3)) (hst : st0 = as.reverse ++ st)
    (kk : ∀ (v : Option AV) (h' : AH), Q v h' → AW G p l e R s m args below meth c (bc + mc) (bs + ms) Qf (pc + 3) env (v.toList ++ st) h') : AW G p l e R s m args below meth c bc bs Qf pc env st0 h := by
  subst hst
  intro ls rs H locs hL hS hR hf
  obtain ⟨Ar, rs2, rfl, hA, hS2⟩ := hS.split
  have hA' : SR as Ar.reverse := hA.rev
  have hM' := hM Ar.reverse hA'
  exact aw_run (va_runSN (As := Ar.reverse) (rest := rs2) ⟨C.1, C.2.1, rfl, C.2.2.1, C.2.2.2.1⟩ hM' ⟨va_cnB as.length C.2.2.2.1 (good_cons hw5) rfl hrm.1 hrm.2 (by rw [← hw]; exact C.2.2.2.2.2.2.2.1) (C.2.2.2.1 _ hw4) hd hR1, C.2.2.2.1 _ hw2, trivial⟩ ⟨PcA.blind, PcA.at C hR⟩ rfl hA'.len hL.2.1 (by simp) (by show 2 * 0 + _ ≤ 8; rw [hS2.sum]; omega) hdg hR2) hL hS2 hf kk
theorem aw_callI (C : CF G p s m args meth c cc own) {idx maxL mc ms b : Nat} {y : MethodName} {bytes : ByteArray} {rm : Room} {Q : Option AV → AH → Prop} {as st0 : List AV}
    (hM : ∀ As : List Value, As.map ab = (vR b :: as).map some → Met l y (.code y bytes maxL none :: xTb) rm (PcA G As h) (QG G Q) mc ms (frA G))
    (hw : Cond.methodLink own idx y ∈ xTb) (hw2 : Cond.instanceMethod y ∈ xTb) (hw4 : Cond.initialized y.cls ∈ xTb) (hw5 : Cond.code y bytes maxL none ∈ xTb) (hrm : rm.cells = mc ∧ rm.slots = ms) (hy1 : y.name = "<init>")
    (hd : y.cls ≠ "java/lang/invoke/MethodHandle" ∧ y.cls ≠ "java/lang/invoke/VarHandle" ∧ (parseMethodDescriptor y.desc).map (fun d => d.parameters.length) = some as.length) (hR1 : rm.frames + 1 ≤ R.frames ∧ 8 + (maxL + 11) + rm.locals ≤ R.locals) (hR2 : bc + mc ≤ R.cells ∧ bs + ms ≤ R.slots) (hr : (st.map acat).sum ≤ 8)
    (hdg : decode cc pc = .ok (.invokespecial idx, 3)) (hst : st0 = as.reverse ++ vR b :: st)
    (kk : ∀ (v : Option AV) (h' : AH), Q v h' → AW G p l e R s m args below meth c (bc + mc) (bs + ms) Qf (pc + 3) env (v.toList ++ st) h') : AW G p l e R s m args below meth c bc bs Qf pc env st0 h := by
  subst hst
  intro ls rs H locs hL hS hR hf
  obtain ⟨Ar, rs1, rfl, hA, hS1⟩ := hS.split
  obtain ⟨rs2, rfl, hS2⟩ := hS1.ref
  have hA' : SR as Ar.reverse := hA.rev
  have hM' := hM (.ref b :: Ar.reverse) (by have := hA'; unfold SR at this; simp [this]; rfl)
  exact aw_run (va_runI (As := Ar.reverse) (rest := rs2) ⟨C.1, C.2.1, rfl, C.2.2.1, C.2.2.2.1⟩ hM' (cwI as.length C.2.2.2.1 (good_cons hw5) rfl hrm.1 hrm.2 (C.2.2.2.1 _ hw4) (C.2.2.2.1 _ hw) (C.2.2.2.1 _ hw2) hy1 hd hR1) ⟨PcA.blind, PcA.at C hR⟩ rfl hA'.len hL.2.1 (by simp) (by show 2 * 0 + _ ≤ 8; rw [hS2.sum]; omega) hdg hR2) hL hS2 hf kk
theorem aw_iret (C : CF G p s m args meth c cc own) {mc ms : Nat} {Q : Option AV → AH → Prop} {i : Int} (hr : meth.sig.returnType = some .int) (hdg : decode cc pc = .ok (.ireturn, 1)) (hb : bc ≤ mc ∧ bs ≤ ms) (hq : Q (some (vI i)) h) : AW G p l e R s m args below meth c bc bs (MQ below (QG G Q) args s mc ms (frA G)) pc env [vI i] h := by
  intro ls rs H locs hL hS hR hf
  obtain ⟨x, rs1, rfl, rfl, hS1⟩ := hS.int
  obtain rfl := hS1.empty
  refine W.widen hb.1 hb.2 ?_
  exact W.iret C.1 C.2.1 hr (fun t ht hW => ⟨_, _, h, rfl, rfl, hq, by rw [ht]; exact hR.moved hW.alike⟩) hf hdg C.2.2.2.2.1
theorem aw_zret (C : CF G p s m args meth c cc own) {mc ms : Nat} {Q : Option AV → AH → Prop} {i : Int} (hr : meth.sig.returnType = some .boolean) (hdg : decode cc pc = .ok (.ireturn, 1)) (hb : bc ≤ mc ∧ bs ≤ ms) (hz : i = 0 ∨ i = 1) (hq : Q (some (vI i)) h) : AW G p l e R s m args below meth c bc bs (MQ below (QG G Q) args s mc ms (frA G)) pc env [vI i] h := by
  intro ls rs H locs hL hS hR hf
  obtain ⟨x, rs1, rfl, e1, hS1⟩ := hS.int
  obtain rfl := hS1.empty
  have hx2 : x = 0 ∨ x = 1 := by
    rcases hz with hz | hz
    · left; rw [toInt_eq, e1, hz]; rfl
    · right; rw [toInt_eq, e1, hz]; rfl
  refine W.widen hb.1 hb.2 ?_
  exact W.zret C.1 C.2.1 hr (by rcases hx2 with rfl | rfl <;> rfl) (fun t ht hW => ⟨_, _, h, rfl, by rw [← e1]; rfl, hq, by rw [ht]; exact hR.moved hW.alike⟩) hf hdg C.2.2.2.2.1
theorem aw_lret (C : CF G p s m args meth c cc own) {mc ms : Nat} {Q : Option AV → AH → Prop} {i : Int64} (hr : meth.sig.returnType = some .long) (hdg : decode cc pc = .ok (.lreturn, 1)) (hb : bc ≤ mc ∧ bs ≤ ms) (hq : Q (some (vL i)) h) : AW G p l e R s m args below meth c bc bs (MQ below (QG G Q) args s mc ms (frA G)) pc env [vL i] h := by
  intro ls rs H locs hL hS hR hf
  obtain ⟨rs1, rfl, hS1⟩ := hS.long
  obtain rfl := hS1.empty
  refine W.widen hb.1 hb.2 ?_
  exact W.lret C.1 C.2.1 hr (fun t ht hW => ⟨_, _, h, rfl, rfl, hq, by rw [ht]; exact hR.moved hW.alike⟩) hf hdg C.2.2.2.2.1
theorem aw_dret (C : CF G p s m args meth c cc own) {mc ms : Nat} {Q : Option AV → AH → Prop} {i : UInt64} (hr : meth.sig.returnType = some .double) (hdg : decode cc pc = .ok (.dreturn, 1)) (hb : bc ≤ mc ∧ bs ≤ ms) (hq : Q (some (vD i)) h) : AW G p l e R s m args below meth c bc bs (MQ below (QG G Q) args s mc ms (frA G)) pc env [vD i] h := by
  intro ls rs H locs hL hS hR hf
  obtain ⟨rs1, rfl, hS1⟩ := hS.dbl
  obtain rfl := hS1.empty
  refine W.widen hb.1 hb.2 ?_
  exact W.dret C.1 C.2.1 hr (fun t ht hW => ⟨_, _, h, rfl, rfl, hq, by rw [ht]; exact hR.moved hW.alike⟩) hf hdg C.2.2.2.2.1
theorem aw_vret (C : CF G p s m args meth c cc own) {mc ms : Nat} {Q : Option AV → AH → Prop} (hr : meth.sig.returnType = none) (hdg : decode cc pc = .ok (.return_, 1)) (hb : bc ≤ mc ∧ bs ≤ ms) (hq : Q none h) : AW G p l e R s m args below meth c bc bs (MQ below (QG G Q) args s mc ms (frA G)) pc env [] h := by
  intro ls rs H locs hL hS hR hf
  obtain rfl := hS.empty
  refine W.widen hb.1 hb.2 ?_
  exact W.vret C.1 C.2.1 hr (fun t ht hW => ⟨_, _, h, rfl, rfl, hq, by rw [ht]; exact hR.moved hW.alike⟩) hf hdg C.2.2.2.2.1
theorem aw_aret (C : CF G p s m args meth c cc own) {mc ms : Nat} {Q : Option AV → AH → Prop} {a : Nat} {n : String} (hr : meth.sig.returnType = some (.object n)) (hdg : decode cc pc = .ok (.areturn, 1)) (hb : bc ≤ mc ∧ bs ≤ ms) (hq : Q (some (vR a)) h) : AW G p l e R s m args below meth c bc bs (MQ below (QG G Q) args s mc ms (frA G)) pc env [vR a] h := by
  intro ls rs H locs hL hS hR hf
  obtain ⟨rs1, rfl, hS1⟩ := hS.ref
  obtain rfl := hS1.empty
  refine W.widen hb.1 hb.2 ?_
  exact W.aret C.1 C.2.1 hr (Or.inl ⟨n, rfl⟩) (Or.inr ⟨a, rfl⟩) (fun t ht hW => ⟨_, _, h, rfl, rfl, hq, by rw [ht]; exact hR.moved hW.alike⟩) hf hdg C.2.2.2.2.1
end AWC
