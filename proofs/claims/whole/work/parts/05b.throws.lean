/-! EXCEPTIONS: a method that throws, its caller that catches -/
def XG (G : GG) (X : String → AH → Prop) : String → State → State → Prop := fun E _ t => ∃ h', X E h' ∧ Rel t G.1 G.2.1 h' t.heap
theorem Rel.gb {s : State} {D : va_G} {H0 : Heap} {h : AH} {H H' : Heap} (r : Rel s D H0 h H) (z : H.size ≤ H'.size) (oq : ∀ q : Nat, q < H.size → H'[q]? = H[q]?) : Rel s D H0 (nGb h (H'.size - H.size)) H' := by
  obtain ⟨r1, r2, r3, r4, r5⟩ := r
  refine ⟨r1, ?_, by omega, fun q hq => by rw [oq q (by omega)]; exact r4 q hq, fun q => ?_⟩
  · show hn h + (H'.size - H.size) = H'.size
    omega
  · have e : agr h (nGb h (H'.size - H.size)) q := ⟨rfl, rfl, rfl, rfl, rfl, rfl, rfl⟩
    by_cases hl : q < H.size
    · exact (r5 q).congr e (oq q hl)
    · have r9 := r5 q
      have hnone : H[q]? = none := by simp; omega
      unfold RC at r9 ⊢
      rw [e.1]
      split at r9
      · trivial
      · obtain ⟨cell, h1, -⟩ := r9; rw [hnone] at h1; cases h1
      · obtain ⟨cell, h1, -⟩ := r9; rw [hnone] at h1; cases h1
      · obtain ⟨cA, f, h1, -⟩ := r9; rw [hnone] at h1; cases h1
      · obtain ⟨r, V, -, ⟨cell, h1, -⟩, -⟩ := r9; rw [hnone] at h1; cases h1
theorem met_ofX {G : GG} {l : Launch} {y : MethodName} {cc : ByteArray} {maxL : Nat} {ret : Option FieldType} {rm : Room} {mc ms : Nat} {as : List AV} {As : List Value} {h : AH} {Q : Option AV → AH → Prop} {X : String → AH → Prop} (hA : As.map ab = as.map some) (hy : plainName y.cls = true) (hlen : (as.map acat).sum ≤ maxL)
    (body : ∀ (p : Program) (e : Env) (s : State) (m : MethodId) (args : Array Value) (below : List Frame) (meth : Method) (c : Code), CF G p s m args meth c cc y.cls → c.maxLocals = maxL → meth.sig.returnType = ret → meth.name = y.name → (∀ x ∈ c.exceptionTable.toList, False) → Rel s G.1 G.2.1 h s.heap → AW G p l e rm s m args below meth c 0 0 (vx_MQ below (QG G Q) (XG G X) args s mc ms (frA G)) 0 (envOf 0 as) [] h) :
    vx_Met l y (.code y cc maxL ret :: xTb) rm (PcA G As h) (QG G Q) (XG G X) mc ms (frA G) := by
  refine vx_ofW (cc := cc) (maxL := maxL) (ret := ret) hy rfl ?_
  intro p e s m args below meth c s₁ B hml htab hP
  obtain ⟨rfl, hrel, hK, hZ, hN⟩ := hP
  have hts := atoms_spec (ws := .code y cc maxL ret :: xTb) B.pre
  have C : CF G p s m As.toArray meth c cc y.cls := ⟨B.exec, B.bytes, findClass_of_methodNamed B.named, fun w hw => hts w (List.mem_cons_of_mem _ hw), B.notSynchronized, hK, hZ, hN⟩
  have hE := lv_entry As (n := maxL) (by rw [sl_len hA]; exact hlen)
  have K := body p e s m As.toArray below meth c C hml B.returns (name_of_methodNamed B.named B.method).1 htab hrel ((lg_sl As ++ List.replicate (maxL - (lg_sl As).length) Slot.unset).toArray) [] s.heap [] ⟨hE.2.1, by rw [hml]; exact hE.1, fun i v hi => by
    obtain ⟨r, r1, r2⟩ := envOf_in hA hi
    exact ⟨r, hE.2.2 (i, r) r1, r2⟩⟩ SR.nil hrel (fun q hq => by cases hq)
  rw [lg_entry_eq]; exact K
theorem met_ofH {G : GG} {l : Launch} {y : MethodName} {cc : ByteArray} {maxL : Nat} {ret : Option FieldType} {hh : List (Nat × Nat × Nat × Nat)} {rm : Room} {mc ms : Nat} {as : List AV} {As : List Value} {h : AH} {Q : Option AV → AH → Prop} (hA : As.map ab = as.map some) (hy : plainName y.cls = true) (hlen : (as.map acat).sum ≤ maxL)
    (body : ∀ (p : Program) (e : Env) (s : State) (m : MethodId) (args : Array Value) (below : List Frame) (meth : Method) (c : Code), CF G p s m args meth c cc y.cls → c.maxLocals = maxL → meth.sig.returnType = ret → meth.name = y.name → c.exceptionTable.toList = tableOf hh → AW G p l e rm s m args below meth c 0 0 (MQ below (QG G Q) args s mc ms (frA G)) 0 (envOf 0 as) [] h) :
    Met l y (.codeWith y cc maxL ret hh :: xTb) rm (PcA G As h) (QG G Q) mc ms (frA G) := by
  refine va_MetW (cc := cc) (maxL := maxL) (ret := ret) (hh := hh) hy rfl ?_
  intro p e s m args below meth c s₁ B hml hP
  obtain ⟨rfl, hrel, hK, hZ, hN⟩ := hP
  have hts := atoms_spec (ws := .codeWith y cc maxL ret hh :: xTb) B.pre
  have C : CF G p s m As.toArray meth c cc y.cls := ⟨B.exec, B.bytes, findClass_of_methodNamed B.named, fun w hw => hts w (List.mem_cons_of_mem _ hw), B.notSynchronized, hK, hZ, hN⟩
  have hE := lv_entry As (n := maxL) (by rw [sl_len hA]; exact hlen)
  have K := body p e s m As.toArray below meth c C hml B.returns (name_of_methodNamed B.named B.method).1 (vx_table (x := y) B (hts _ List.mem_cons_self)) ((lg_sl As ++ List.replicate (maxL - (lg_sl As).length) Slot.unset).toArray) [] s.heap [] ⟨hE.2.1, by rw [hml]; exact hE.1, fun i v hi => by
    obtain ⟨r, r1, r2⟩ := envOf_in hA hi
    exact ⟨r, hE.2.2 (i, r) r1, r2⟩⟩ SR.nil hrel (fun q hq => by cases hq)
  rw [lg_entry_eq]; exact K
section AWX
variable {G : GG} {p : Program} {l : Launch} {e : Env} {R : Room} {s : State} {m : MethodId} {args : Array Value} {below : List Frame} {meth : Method} {c : Code} {bc bs : Nat} {Qf : State → Prop} {cc : ByteArray} {own : String}
variable {pc : Nat} {env : Nat → Option AV} {st : List AV} {h : AH}
theorem aw_vx {Q : Option AV → AH → Prop} {X : String → AH → Prop} {mc ms : Nat} (k : AW G p l e R s m args below meth c bc bs (MQ below (QG G Q) args s mc ms (frA G)) pc env st h) : AW G p l e R s m args below meth c bc bs (vx_MQ below (QG G Q) (XG G X) args s mc ms (frA G)) pc env st h :=
  fun ls rs H locs hL hS hR hf => vx_ret (k ls rs H locs hL hS hR hf)
theorem aw_throw (C : CF G p s m args meth c cc own) (hst : l.stackTraces = false) (htab : ∀ x ∈ c.exceptionTable.toList, False) {h0 : AH} (hR0 : Rel s G.1 G.2.1 h0 s.heap) (hle : hn h0 ≤ hn h) {cls text : String} {names : List String} {ik is ic mc ms : Nat} {Q : Option AV → AH → Prop} {X : String → AH → Prop}
    (hcls : Bundle.fit cls = true) (hnames : ∀ n ∈ names, Bundle.fit n = true) (hk : Cond.classLink own ik cls ∈ xTb) (hini : Cond.initialized cls ∈ xTb) (ho : own = RX6) (hstr : (is, text) ∈ xStr) (hat : ∀ w ∈ vx_atS own ic cls names, w ∈ lw_tbl) (hgood : (vx_atS own ic cls names).all vx_ot = true) (hcd : (vx_atS own ic cls names).all (fun w => goodWord w || xCd w) = true)
    (d0 : decode cc pc = .ok (.new ik, 3)) (d3 : decode cc (pc + 3) = .ok (.dup, 1)) (d4 : decode cc (pc + 4) = .ok (.ldc is, 2)) (d6 : decode cc (pc + 6) = .ok (.invokespecial ic, 3)) (d9 : decode cc (pc + 9) = .ok (.athrow, 1))
    (hroom : names.length + 3 < R.frames ∧ 8 + (13 * (names.length + 1) + 43) ≤ R.locals ∧ bc + 1 ≤ R.cells ∧ bs + 6 ≤ R.slots) (hr : (st.map acat).sum ≤ 8) (hb : bc + 1 ≤ mc ∧ bs + 6 ≤ ms) (hx : ∀ k, X cls (nGb h k)) : AW G p l e R s m args below meth c bc bs (vx_MQ below (QG G Q) (XG G X) args s mc ms (frA G)) pc env st h := by
  intro ls rs H locs hL hS hR hf
  obtain ⟨-, -, -, -, -, -, hZF, hNF⟩ := id C
  obtain ⟨sa, hsa⟩ := hNF.2.2.2.1 _ hstr
  have low : ∀ a : Nat, a < G.2.1.size → ¬ (G.2.1.size ≤ a) → s.heap[a]? = G.2.1[a]? := fun a h1 _ => hR0.2.2.2.1 a h1
  have hatT : ∀ w ∈ vx_atS own ic cls names, w.before args s = true := by
    intro w hw
    have h1 := List.all_eq_true.mp hcd w hw
    simp only [Bool.or_eq_true] at h1
    rcases h1 with h1 | h1
    · exact C.2.2.2.1 _ (xTb_in (hat w hw) h1)
    · exact va_Nw.use (xCd_ot h1) (hNF.2.2.1 w (List.mem_filter.mpr ⟨hat w hw, h1⟩))
  refine vx_throwS (A := fun q => G.2.1.size ≤ q) C.1 C.2.1 hst C.2.2.1 hcls hnames (C.2.2.2.1 _ hk) (C.2.2.2.1 _ hini) (by rw [ho]; exact hsa) hatT ?_ (hZF.2.2.2.1.kept low) (hZF.2.2.2.2.kept low) ⟨by rw [← hR0.2.1, ← hR.2.1]; exact hle, fun q h1 h2 => ?_, hf⟩ hL.2.1 d0 d3 d4 d6 d9 (fun x hx => (htab x hx).elim) hroom.1 (by rw [hS.sum]; omega) hroom.2.2.1 hroom.2.2.2 C.2.2.2.2.1 (fun t hal hz hq => ⟨_, hx (t.heap.size - H.size), ?_⟩) hf hb.1 hb.2
  · intro w hw
    rcases List.mem_cons.mp hw with rfl | hw
    · rfl
    · rcases List.mem_cons.mp hw with rfl | hw
      · rfl
      · exact List.all_eq_true.mp hgood w hw
  · have h3 : q < G.2.1.size := Nat.not_le.mp h2
    rw [hR.2.2.2.1 q h3, hR0.2.2.2.1 q h3]
  · exact (hR.gb hz hq).moved hal
/-- thrown here: E, over this frame -/
def AX (G : GG) (p : Program) (l : Launch) (e : Env) (R : Room) (s : State) (m : MethodId) (args : Array Value) (below : List Frame) (meth : Method) (c : Code) (bc bs : Nat) (Qf : State → Prop) (E : String) (pc : Nat) (env : Nat → Option AV) (st : List AV) (h : AH) : Prop :=
  ∀ (ls : Array Slot) (rs : List Value) (H : Heap) (locs : List Loc) (q : Addr) (ce : Cell), LR c.maxLocals env ls → SR st rs → Rel s G.1 G.2.1 h H → (∀ q ∈ locs, G.2.1.size ≤ q.base) → H[q]? = some ce → ce.vm = .none → s.vm.findClass E = some ce.cls → vx_W p l e R s m args below meth c H locs bc bs Qf (F0 m pc ls rs) q
theorem ax_catch (C : CF G p s m args meth c cc own) {E : String} {hh : List (Nat × Nat × Nat × Nat)} (htab : c.exceptionTable.toList = tableOf hh) (pre : List ExceptionTableEntry) (x : ExceptionTableEntry) (suf : List ExceptionTableEntry) (hsplit : tableOf hh = pre ++ x :: suf)
    (hpass : ∀ z ∈ pre, z.catchType ≠ 0 ∧ ∃ nm : String, Cond.classLink own z.catchType nm ∈ xTb ∧ (E, nm) ∈ xNc) (hx : covers x pc = true) (h0 : x.catchType ≠ 0) (hlink : Cond.classLink own x.catchType E ∈ xTb) (hcast : Cond.castable E E ∈ xEx)
    (kk : ∀ q, AW G p l e R s m args below meth c bc bs Qf x.handlerPc env [vR q] h) : AX G p l e R s m args below meth c bc bs Qf E pc env st h := by
  intro ls rs H locs q ce hL hS hR hf hq hv hcl
  exact vx_catch C.2.2.1 pre x suf (htab.trans hsplit) (fun z hz => by
    obtain ⟨h1, nm, h2, h3⟩ := hpass z hz
    exact Or.inr ⟨h1, nm, C.2.2.2.1 _ h2, C.2.2.2.2.2.2.2.2.2.2.2.1 _ h3⟩) hx h0 (C.2.2.2.1 _ hlink) (va_Nw.use rfl (C.2.2.2.2.2.2.2.2.2.1 _ hcast)) hq hv hcl (kk q ls _ H locs hL (SR.nil.cons rfl) hR hf)
theorem aw_callVX (C : CF G p s m args meth c cc own) {ci idx maxL mc ms b : Nat} {Cn : String} {T : u_T} {N : Nat} {y : MethodName} {bytes : ByteArray} {ret : Option FieldType} {rm : Room} {Q : Option AV → AH → Prop} {X : String → AH → Prop} {as st0 : List AV} (I : CI ci Cn T N)
    (hM : ∀ As : List Value, As.map ab = (vR b :: as).map some → vx_Met l y (.code y bytes maxL ret :: xTb) rm (PcA G As h) (QG G Q) (XG G X) mc ms (frA G))
    (hw : Cond.methodLink own idx y ∈ xTb) (hw2 : Cond.instanceMethod y ∈ xTb) (hw3 : Cond.selects y.cls y y ∈ xTb) (hw4 : Cond.initialized y.cls ∈ xTb) (hw5 : Cond.code y bytes maxL ret ∈ xTb) (hrm : rm.cells = mc ∧ rm.slots = ms)
    (hd : y.cls = Cn ∧ y.cls ≠ "java/lang/invoke/MethodHandle" ∧ y.cls ≠ "java/lang/invoke/VarHandle" ∧ (parseMethodDescriptor y.desc).map (fun d => d.parameters.length) = some as.length) (hR1 : rm.frames + 1 ≤ R.frames ∧ 8 + (maxL + 11) + rm.locals ≤ R.locals) (hR2 : bc + mc ≤ R.cells ∧ bs + ms ≤ R.slots) (hr : (st.map acat).sum ≤ 8)
    (hdg : decode cc pc = .ok (.invokevirtual idx, 3)) (hst : st0 = as.reverse ++ vR b :: st) (hb : (hkd h b).1 = ci + 4)
    (kk : ∀ (v : Option AV) (h' : AH), Q v h' → AW G p l e R s m args below meth c (bc + mc) (bs + ms) Qf (pc + 3) env (v.toList ++ st) h')
    (kx : ∀ (E : String) (h' : AH), X E h' → AX G p l e R s m args below meth c (bc + mc) (bs + ms) Qf E pc env st h') : AW G p l e R s m args below meth c bc bs Qf pc env st0 h := by
  subst hst
  intro ls rs H locs hL hS hR hf
  obtain ⟨Ar, rs1, rfl, hA, hS1⟩ := hS.split
  obtain ⟨rs2, rfl, hS2⟩ := hS1.ref
  obtain ⟨V, ⟨cell, v1, v2, v3, -⟩, -⟩ := (hR.2.2.2.2 b).obj I hb
  have hA' : SR as Ar.reverse := hA.rev
  have hM' := hM (.ref b :: Ar.reverse) (by have := hA'; unfold SR at this; simp [this]; rfl)
  obtain ⟨hd1, hd2, hd3, hd4⟩ := hd
  have hrun := vx_runV (meth := meth) (As := Ar.reverse) (rest := rs2) (C := Cn) (g := F0 m pc ls (Ar ++ .ref b :: rs2)) (cells := bc) (slots := bs) (below := below) (e := e) (locs := locs) ⟨C.1, C.2.1, rfl, C.2.2.1, C.2.2.2.1⟩ hM' ⟨callB_of as.length C.2.2.2.1 (good_cons hw5) rfl hrm.1 hrm.2 (C.2.2.2.1 _ hw4) (C.2.2.2.1 _ hw) ⟨hd2, hd3, hd4⟩ hR1, C.2.2.2.1 _ hw2, by rw [← hd1]; exact C.2.2.2.1 _ hw3⟩ ⟨PcA.blind, ⟨cell, v1, by rw [v3]; rfl, by rw [v2]; exact (C.2.2.2.2.2.1.1 ci _ I.1).2.1⟩, PcA.at C hR⟩ rfl hA'.len hL.2.1 (by simp) (by show 2 * 0 + _ ≤ 8; rw [hS2.sum]; omega) hdg hR2
  intro T hT Xs
  have lo2 : ∀ (L : List Loc), (∀ q ∈ L, frA G q.base) → ∀ q ∈ locs ++ L, G.2.1.size ≤ q.base := fun L hLf q hq => by
    rcases List.mem_append.mp hq with hq | hq
    · exact hf q hq
    · exact hLf q hq
  rcases hrun T hT Xs with ⟨v, st₀, t, T', L, hh0, X', hLf, e1, e2, ⟨r, av, h', hv, hav, hq, hrel⟩, st1⟩ | ⟨q, st₀, t, T', L, E, ce, hh0, X', hLf, e1, e2, ⟨h', hxx, hrel⟩, hce, hcv, hcl, st1⟩
  · cases hv
    have hal : t.vm.Alike s.vm := by rw [← e2]; exact (X'.warmed.alike).symm
    have hrel2 : Rel s G.1 G.2.1 h' T'.heap := by rw [e1]; exact hrel.moved hal
    have hSv : SR (av.toList ++ st) (v.toList ++ rs2) := by
      cases v with
      | none => cases av with
        | none => exact hS2
        | some _ => simp at hav
      | some w => cases av with
        | none => simp at hav
        | some z => exact hS2.cons (by simpa using hav)
    obtain ⟨t2, a1, b1⟩ := kk av h' hq ls _ T'.heap (locs ++ L) hL hSv hrel2 (lo2 L hLf) T' rfl X'
    exact ⟨t2, st1 t2 a1, b1⟩
  · have hal : t.vm.Alike s.vm := by rw [← e2]; exact (X'.warmed.alike).symm
    have hrel2 : Rel s G.1 G.2.1 h' T'.heap := by rw [e1]; exact hrel.moved hal
    obtain ⟨t2, a1, b1⟩ := kx E h' hxx ls rs2 T'.heap (locs ++ L) q ce hL hS2 hrel2 (lo2 L hLf) (by rw [e1]; exact hce) hcv hcl T' rfl X'
    exact ⟨t2, st1.trans a1, b1⟩
theorem good_consW {y : MethodName} {bytes : ByteArray} {maxL : Nat} {ret : Option FieldType} {hh : List (Nat × Nat × Nat × Nat)} (hw : Cond.codeWith y bytes maxL ret hh ∈ xTb) : GoodIn xTb (.codeWith y bytes maxL ret hh :: xTb) := fun w h => by
  rcases List.mem_cons.mp h with rfl | h
  · exact good_all _ hw
  · exact good_all _ h
theorem aw_callSW (C : CF G p s m args meth c cc own) {idx maxL mc ms : Nat} {y : MethodName} {bytes : ByteArray} {ret : Option FieldType} {hh : List (Nat × Nat × Nat × Nat)} {rm : Room} {Q : Option AV → AH → Prop} {as st0 : List AV}
    (hM : ∀ As : List Value, As.map ab = as.map some → Met l y (.codeWith y bytes maxL ret hh :: xTb) rm (PcA G As h) (QG G Q) mc ms (frA G))
    (hw : Cond.methodLink own idx y ∈ xTb) (hw2 : Cond.static y ∈ xTb) (hw4 : Cond.initialized y.cls ∈ xTb) (hw5 : Cond.codeWith y bytes maxL ret hh ∈ xTb) (hrm : rm.cells = mc ∧ rm.slots = ms)
    (hd : y.cls ≠ "java/lang/invoke/MethodHandle" ∧ y.cls ≠ "java/lang/invoke/VarHandle" ∧ (parseMethodDescriptor y.desc).map (fun d => d.parameters.length) = some as.length) (hR1 : rm.frames + 1 ≤ R.frames ∧ 8 + (maxL + 11) + rm.locals ≤ R.locals) (hR2 : bc + mc ≤ R.cells ∧ bs + ms ≤ R.slots) (hr : (st.map acat).sum ≤ 8)
    (hdg : decode cc pc = .ok (.invokestatic idx, 3)) (hst : st0 = as.reverse ++ st)
    (kk : ∀ (v : Option AV) (h' : AH), Q v h' → AW G p l e R s m args below meth c (bc + mc) (bs + ms) Qf (pc + 3) env (v.toList ++ st) h') : AW G p l e R s m args below meth c bc bs Qf pc env st0 h := by
  subst hst
  intro ls rs H locs hL hS hR hf
  obtain ⟨Ar, rs2, rfl, hA, hS2⟩ := hS.split
  have hA' : SR as Ar.reverse := hA.rev
  have hM' := hM Ar.reverse hA'
  have ht := C.2.2.2.1
  refine aw_run (vx_runSW (hh := hh) (As := Ar.reverse) (rest := rs2) ⟨C.1, C.2.1, rfl, C.2.2.1, C.2.2.2.1⟩ hM' ⟨⟨hrm.1, hrm.2, hR1.1, hR1.2, pay_in ht (good_consW hw5), List.mem_cons_self⟩, ht _ hw5, ht _ hw4, ⟨hd.1, hd.2.1⟩, fun sig hs => ?_, ht _ hw, ht _ hw2⟩ ⟨PcA.blind, PcA.at C hR⟩ rfl hA'.len hL.2.1 (by simp) (by show 2 * 0 + _ ≤ 8; rw [hS2.sum]; omega) hdg hR2) hL hS2 hf kk
  have h2 := hd.2.2
  rw [hs] at h2
  exact (Option.some.inj h2).symm
end AWX
