/-! THE METHODS, BY PROGRAM (wip/whole/gen.py): what each means (w_..), and its contract (met_..) -/
theorem dL_set_0 : decode cL_set 0 = .ok (.aload_n 3, 1) := by decide +kernel
theorem dL_set_1 : decode cL_set 1 = .ok (.iconst 0, 1) := by decide +kernel
theorem dL_set_2 : decode cL_set 2 = .ok (.aload_n 0, 1) := by decide +kernel
theorem dL_set_3 : decode cL_set 3 = .ok (.iload_n 1, 1) := by decide +kernel
theorem dL_set_4 : decode cL_set 4 = .ok (.iload_n 2, 1) := by decide +kernel
theorem dL_set_5 : decode cL_set 5 = .ok (.invokevirtual 7, 3) := by decide +kernel
theorem dL_set_8 : decode cL_set 8 = .ok (.i2l, 1) := by decide +kernel
theorem dL_set_9 : decode cL_set 9 = .ok (.lastore, 1) := by decide +kernel
theorem dL_set_10 : decode cL_set 10 = .ok (.goto 11, 3) := by decide +kernel
theorem dL_set_13 : decode cL_set 13 = .ok (.astore 4, 2) := by decide +kernel
theorem dL_set_15 : decode cL_set 15 = .ok (.iconst 1, 1) := by decide +kernel
theorem dL_set_16 : decode cL_set 16 = .ok (.ireturn, 1) := by decide +kernel
theorem dL_set_17 : decode cL_set 17 = .ok (.astore 4, 2) := by decide +kernel
theorem dL_set_19 : decode cL_set 19 = .ok (.iconst 2, 1) := by decide +kernel
theorem dL_set_20 : decode cL_set 20 = .ok (.ireturn, 1) := by decide +kernel
theorem dL_set_21 : decode cL_set 21 = .ok (.iconst 0, 1) := by decide +kernel
theorem dL_set_22 : decode cL_set 22 = .ok (.ireturn, 1) := by decide +kernel
theorem pd_L_set : (parseMethodDescriptor yL_set.desc).map (fun d => d.parameters.length) = some 4 := by decide +kernel
def w_L_set (zz : Nat → Nat) (a0 : Nat) (a1 : Int) (a2 : Int) (a3 : Nat) (h : AH) (Q : Int → AH → Prop) : Prop := okA h a0 6 ∧ w_X6_set zz a0 a1 a2 h (fun (r5 : Int) (h5 : AH) => okV h5 a3 (0 : Int) ∧ ∀ h9 : AH, h9 = saL h5 a3 (u1 (haL h5 a3) (0 : Int) (Int64.ofInt r5)) → Q (0 : Int) h9) (fun (E9 : String) (h5 : AH) => (E9 = "java/lang/IndexOutOfBoundsException" ∧ (Q (1 : Int) h5)) ∨ (E9 = "java/lang/IllegalArgumentException" ∧ (Q (2 : Int) h5)))
set_option maxRecDepth 100000 in
set_option maxHeartbeats 4000000 in
theorem met_L_set (G : GG) (l : Launch) (hst : l.stackTraces = false) : ∀ (As : List Value) (a0 : Nat) (a1 : Int) (a2 : Int) (a3 : Nat) (h : AH) (Q : Int → AH → Prop), As.map ab = List.map some ([vR a0, vI a1, vI a2, vR a3] : List AV) → w_L_set G.2.2 a0 a1 a2 a3 h Q → Met l yL_set (.codeWith yL_set cL_set 5 (some .int) [(0, 10, 13, 13), (0, 10, 17, 15)] :: xTb) ({ frames := 7, cells := 1, slots := 6, locals := 127 } : Room) (PcA G As h) (QG G (oI Q)) 1 6 (frA G) := by
  intro As a0 a1 a2 a3 h Q hA hw
  refine met_ofH hA (by decide) (Nat.le_of_ble_eq_true rfl) (fun p e s m args below meth c C hml hr hnm htab => ?_)
  unfold w_L_set at hw
  refine aw_aload_n (pc := 0) C dL_set_0 rfl rfl ?_
  refine aw_iconst (pc := 1) C dL_set_1 (i := (0 : Int)) (by decide) ?_
  refine aw_aload_n (pc := 2) C dL_set_2 rfl rfl ?_
  refine aw_iload_n (pc := 3) C dL_set_3 rfl rfl ?_
  refine aw_iload_n (pc := 4) C dL_set_4 rfl rfl ?_
  obtain ⟨hp9, hw⟩ := hw
  refine aw_callVX (pc := 5) (as := [vI a1, vI a2]) C ci6 (fun As hA => met_X6_set G l hst As a0 a1 a2 _ _ _ hA hw) tw540 tw541 tw542 tw1 tw543 ⟨rfl, rfl⟩ ⟨rfl, by decide, by decide, pd_X6_set⟩ ⟨Nat.le_of_ble_eq_true rfl, Nat.le_of_ble_eq_true rfl⟩ ⟨(Nat.le_of_ble_eq_true rfl), (Nat.le_of_ble_eq_true rfl)⟩ (Nat.le_of_ble_eq_true rfl) dL_set_5 rfl hp9 (fun v9 h5 hq9 => ?_) (fun E9 h5 hx9 => ?_)
  · obtain ⟨r5, rfl, hw⟩ := hq9
    refine aw_i2l (pc := 8) C dL_set_8  ?_
    obtain ⟨⟨k9, hp9⟩, hw⟩ := hw
    refine aw_last (pc := 9) C dL_set_9 hp9 (aw_nmH (fun h9 e9 => ?_))
    have hw := hw h9 e9
    refine aw_goto (pc := 10) (tgt := 21) C dL_set_10 (by decide) ?_
    refine aw_iconst (pc := 21) C dL_set_21 (i := (0 : Int)) (by decide) ?_
    exact aw_iret (pc := 22) C hr dL_set_22 ⟨Nat.le_of_ble_eq_true rfl, Nat.le_of_ble_eq_true rfl⟩ ⟨_, rfl, hw⟩
  · rcases hx9 with ⟨rfl, hw⟩ | ⟨rfl, hw⟩
    · refine ax_catch C htab [] ⟨0, 10, 13, 13⟩ [⟨0, 10, 17, 15⟩] rfl (fun _ h9 => nomatch h9) rfl (by decide) tw538 xcast_I (fun q9 => ?_)
      refine aw_astore (pc := 13) C dL_set_13 (by rw [hml]; decide) ?_
      refine aw_iconst (pc := 15) C dL_set_15 (i := (1 : Int)) (by decide) ?_
      exact aw_iret (pc := 16) C hr dL_set_16 ⟨Nat.le_of_ble_eq_true rfl, Nat.le_of_ble_eq_true rfl⟩ ⟨_, rfl, hw⟩
    · refine ax_catch C htab [⟨0, 10, 13, 13⟩] ⟨0, 10, 17, 15⟩ [] rfl (List.forall_mem_cons.mpr ⟨⟨by decide, _, tw538, by decide +kernel⟩, (fun _ h9 => nomatch h9)⟩) rfl (by decide) tw539 xcast_A (fun q9 => ?_)
      refine aw_astore (pc := 17) C dL_set_17 (by rw [hml]; decide) ?_
      refine aw_iconst (pc := 19) C dL_set_19 (i := (2 : Int)) (by decide) ?_
      exact aw_iret (pc := 20) C hr dL_set_20 ⟨Nat.le_of_ble_eq_true rfl, Nat.le_of_ble_eq_true rfl⟩ ⟨_, rfl, hw⟩
theorem dL_load_0 : decode cL_load 0 = .ok (.aload_n 2, 1) := by decide +kernel
theorem dL_load_1 : decode cL_load 1 = .ok (.iconst 0, 1) := by decide +kernel
theorem dL_load_2 : decode cL_load 2 = .ok (.aload_n 0, 1) := by decide +kernel
theorem dL_load_3 : decode cL_load 3 = .ok (.iload_n 1, 1) := by decide +kernel
theorem dL_load_4 : decode cL_load 4 = .ok (.invokevirtual 17, 3) := by decide +kernel
theorem dL_load_7 : decode cL_load 7 = .ok (.i2l, 1) := by decide +kernel
theorem dL_load_8 : decode cL_load 8 = .ok (.lastore, 1) := by decide +kernel
theorem dL_load_9 : decode cL_load 9 = .ok (.goto 9, 3) := by decide +kernel
theorem dL_load_12 : decode cL_load 12 = .ok (.astore_n 3, 1) := by decide +kernel
theorem dL_load_13 : decode cL_load 13 = .ok (.iconst 1, 1) := by decide +kernel
theorem dL_load_14 : decode cL_load 14 = .ok (.ireturn, 1) := by decide +kernel
theorem dL_load_15 : decode cL_load 15 = .ok (.astore_n 3, 1) := by decide +kernel
theorem dL_load_16 : decode cL_load 16 = .ok (.iconst 2, 1) := by decide +kernel
theorem dL_load_17 : decode cL_load 17 = .ok (.ireturn, 1) := by decide +kernel
theorem dL_load_18 : decode cL_load 18 = .ok (.iconst 0, 1) := by decide +kernel
theorem dL_load_19 : decode cL_load 19 = .ok (.ireturn, 1) := by decide +kernel
theorem pd_L_load : (parseMethodDescriptor yL_load.desc).map (fun d => d.parameters.length) = some 3 := by decide +kernel
def w_L_load (zz : Nat → Nat) (a0 : Nat) (a1 : Int) (a2 : Nat) (h : AH) (Q : Int → AH → Prop) : Prop := okA h a0 6 ∧ w_X6_load zz a0 a1 h (fun (r4 : Int) (h4 : AH) => okV h4 a2 (0 : Int) ∧ ∀ h8 : AH, h8 = saL h4 a2 (u1 (haL h4 a2) (0 : Int) (Int64.ofInt r4)) → Q (0 : Int) h8) (fun (E9 : String) (h4 : AH) => (E9 = "java/lang/IndexOutOfBoundsException" ∧ (Q (1 : Int) h4)) ∨ (E9 = "java/lang/IllegalArgumentException" ∧ (Q (2 : Int) h4)))
set_option maxRecDepth 100000 in
set_option maxHeartbeats 4000000 in
theorem met_L_load (G : GG) (l : Launch) (hst : l.stackTraces = false) : ∀ (As : List Value) (a0 : Nat) (a1 : Int) (a2 : Nat) (h : AH) (Q : Int → AH → Prop), As.map ab = List.map some ([vR a0, vI a1, vR a2] : List AV) → w_L_load G.2.2 a0 a1 a2 h Q → Met l yL_load (.codeWith yL_load cL_load 4 (some .int) [(0, 9, 12, 13), (0, 9, 15, 15)] :: xTb) ({ frames := 7, cells := 1, slots := 6, locals := 125 } : Room) (PcA G As h) (QG G (oI Q)) 1 6 (frA G) := by
  intro As a0 a1 a2 h Q hA hw
  refine met_ofH hA (by decide) (Nat.le_of_ble_eq_true rfl) (fun p e s m args below meth c C hml hr hnm htab => ?_)
  unfold w_L_load at hw
  refine aw_aload_n (pc := 0) C dL_load_0 rfl rfl ?_
  refine aw_iconst (pc := 1) C dL_load_1 (i := (0 : Int)) (by decide) ?_
  refine aw_aload_n (pc := 2) C dL_load_2 rfl rfl ?_
  refine aw_iload_n (pc := 3) C dL_load_3 rfl rfl ?_
  obtain ⟨hp9, hw⟩ := hw
  refine aw_callVX (pc := 4) (as := [vI a1]) C ci6 (fun As hA => met_X6_load G l hst As a0 a1 _ _ _ hA hw) tw641 tw642 tw643 tw1 tw644 ⟨rfl, rfl⟩ ⟨rfl, by decide, by decide, pd_X6_load⟩ ⟨Nat.le_of_ble_eq_true rfl, Nat.le_of_ble_eq_true rfl⟩ ⟨(Nat.le_of_ble_eq_true rfl), (Nat.le_of_ble_eq_true rfl)⟩ (Nat.le_of_ble_eq_true rfl) dL_load_4 rfl hp9 (fun v9 h4 hq9 => ?_) (fun E9 h4 hx9 => ?_)
  · obtain ⟨r4, rfl, hw⟩ := hq9
    refine aw_i2l (pc := 7) C dL_load_7  ?_
    obtain ⟨⟨k9, hp9⟩, hw⟩ := hw
    refine aw_last (pc := 8) C dL_load_8 hp9 (aw_nmH (fun h8 e9 => ?_))
    have hw := hw h8 e9
    refine aw_goto (pc := 9) (tgt := 18) C dL_load_9 (by decide) ?_
    refine aw_iconst (pc := 18) C dL_load_18 (i := (0 : Int)) (by decide) ?_
    exact aw_iret (pc := 19) C hr dL_load_19 ⟨Nat.le_of_ble_eq_true rfl, Nat.le_of_ble_eq_true rfl⟩ ⟨_, rfl, hw⟩
  · rcases hx9 with ⟨rfl, hw⟩ | ⟨rfl, hw⟩
    · refine ax_catch C htab [] ⟨0, 9, 12, 13⟩ [⟨0, 9, 15, 15⟩] rfl (fun _ h9 => nomatch h9) rfl (by decide) tw538 xcast_I (fun q9 => ?_)
      refine aw_astore_n (pc := 12) C dL_load_12 rfl (by rw [hml]; decide) ?_
      refine aw_iconst (pc := 13) C dL_load_13 (i := (1 : Int)) (by decide) ?_
      exact aw_iret (pc := 14) C hr dL_load_14 ⟨Nat.le_of_ble_eq_true rfl, Nat.le_of_ble_eq_true rfl⟩ ⟨_, rfl, hw⟩
    · refine ax_catch C htab [⟨0, 9, 12, 13⟩] ⟨0, 9, 15, 15⟩ [] rfl (List.forall_mem_cons.mpr ⟨⟨by decide, _, tw538, by decide +kernel⟩, (fun _ h9 => nomatch h9)⟩) rfl (by decide) tw539 xcast_A (fun q9 => ?_)
      refine aw_astore_n (pc := 15) C dL_load_15 rfl (by rw [hml]; decide) ?_
      refine aw_iconst (pc := 16) C dL_load_16 (i := (2 : Int)) (by decide) ?_
      exact aw_iret (pc := 17) C hr dL_load_17 ⟨Nat.le_of_ble_eq_true rfl, Nat.le_of_ble_eq_true rfl⟩ ⟨_, rfl, hw⟩
theorem dL_put_0 : decode cL_put 0 = .ok (.aload 5, 2) := by decide +kernel
theorem dL_put_2 : decode cL_put 2 = .ok (.iconst 0, 1) := by decide +kernel
theorem dL_put_3 : decode cL_put 3 = .ok (.aload_n 0, 1) := by decide +kernel
theorem dL_put_4 : decode cL_put 4 = .ok (.iload_n 1, 1) := by decide +kernel
theorem dL_put_5 : decode cL_put 5 = .ok (.iload_n 2, 1) := by decide +kernel
theorem dL_put_6 : decode cL_put 6 = .ok (.iload_n 3, 1) := by decide +kernel
theorem dL_put_7 : decode cL_put 7 = .ok (.iload 4, 2) := by decide +kernel
theorem dL_put_9 : decode cL_put 9 = .ok (.invokevirtual 21, 3) := by decide +kernel
theorem dL_put_12 : decode cL_put 12 = .ok (.i2l, 1) := by decide +kernel
theorem dL_put_13 : decode cL_put 13 = .ok (.lastore, 1) := by decide +kernel
theorem dL_put_14 : decode cL_put 14 = .ok (.goto 15, 3) := by decide +kernel
theorem dL_put_17 : decode cL_put 17 = .ok (.astore 6, 2) := by decide +kernel
theorem dL_put_19 : decode cL_put 19 = .ok (.iconst 1, 1) := by decide +kernel
theorem dL_put_20 : decode cL_put 20 = .ok (.ireturn, 1) := by decide +kernel
theorem dL_put_21 : decode cL_put 21 = .ok (.astore 6, 2) := by decide +kernel
theorem dL_put_23 : decode cL_put 23 = .ok (.iconst 2, 1) := by decide +kernel
theorem dL_put_24 : decode cL_put 24 = .ok (.ireturn, 1) := by decide +kernel
theorem dL_put_25 : decode cL_put 25 = .ok (.astore 6, 2) := by decide +kernel
theorem dL_put_27 : decode cL_put 27 = .ok (.iconst 3, 1) := by decide +kernel
theorem dL_put_28 : decode cL_put 28 = .ok (.ireturn, 1) := by decide +kernel
theorem dL_put_29 : decode cL_put 29 = .ok (.iconst 0, 1) := by decide +kernel
theorem dL_put_30 : decode cL_put 30 = .ok (.ireturn, 1) := by decide +kernel
theorem pd_L_put : (parseMethodDescriptor yL_put.desc).map (fun d => d.parameters.length) = some 6 := by decide +kernel
def w_L_put (zz : Nat → Nat) (a0 : Nat) (a1 : Int) (a2 : Int) (a3 : Int) (a4 : Int) (a5 : Nat) (h : AH) (Q : Int → AH → Prop) : Prop := okA h a0 6 ∧ w_X6_put zz a0 a1 a2 a3 a4 h (fun (r9 : Int) (h9 : AH) => okV h9 a5 (0 : Int) ∧ ∀ h13 : AH, h13 = saL h9 a5 (u1 (haL h9 a5) (0 : Int) (Int64.ofInt r9)) → Q (0 : Int) h13) (fun (E9 : String) (h9 : AH) => (E9 = "java/lang/IndexOutOfBoundsException" ∧ (Q (1 : Int) h9)) ∨ (E9 = "java/lang/IllegalArgumentException" ∧ (Q (2 : Int) h9)) ∨ (E9 = "java/lang/IllegalStateException" ∧ (Q (3 : Int) h9)))
set_option maxRecDepth 100000 in
set_option maxHeartbeats 4000000 in
theorem met_L_put (G : GG) (l : Launch) (hst : l.stackTraces = false) : ∀ (As : List Value) (a0 : Nat) (a1 : Int) (a2 : Int) (a3 : Int) (a4 : Int) (a5 : Nat) (h : AH) (Q : Int → AH → Prop), As.map ab = List.map some ([vR a0, vI a1, vI a2, vI a3, vI a4, vR a5] : List AV) → w_L_put G.2.2 a0 a1 a2 a3 a4 a5 h Q → Met l yL_put (.codeWith yL_put cL_put 7 (some .int) [(0, 14, 17, 13), (0, 14, 21, 15), (0, 14, 25, 25)] :: xTb) ({ frames := 7, cells := 1, slots := 6, locals := 130 } : Room) (PcA G As h) (QG G (oI Q)) 1 6 (frA G) := by
  intro As a0 a1 a2 a3 a4 a5 h Q hA hw
  refine met_ofH hA (by decide) (Nat.le_of_ble_eq_true rfl) (fun p e s m args below meth c C hml hr hnm htab => ?_)
  unfold w_L_put at hw
  refine aw_aload (pc := 0) C dL_put_0 rfl ?_
  refine aw_iconst (pc := 2) C dL_put_2 (i := (0 : Int)) (by decide) ?_
  refine aw_aload_n (pc := 3) C dL_put_3 rfl rfl ?_
  refine aw_iload_n (pc := 4) C dL_put_4 rfl rfl ?_
  refine aw_iload_n (pc := 5) C dL_put_5 rfl rfl ?_
  refine aw_iload_n (pc := 6) C dL_put_6 rfl rfl ?_
  refine aw_iload (pc := 7) C dL_put_7 rfl ?_
  obtain ⟨hp9, hw⟩ := hw
  refine aw_callVX (pc := 9) (as := [vI a1, vI a2, vI a3, vI a4]) C ci6 (fun As hA => met_X6_put G l hst As a0 a1 a2 a3 a4 _ _ _ hA hw) tw662 tw663 tw664 tw1 tw665 ⟨rfl, rfl⟩ ⟨rfl, by decide, by decide, pd_X6_put⟩ ⟨Nat.le_of_ble_eq_true rfl, Nat.le_of_ble_eq_true rfl⟩ ⟨(Nat.le_of_ble_eq_true rfl), (Nat.le_of_ble_eq_true rfl)⟩ (Nat.le_of_ble_eq_true rfl) dL_put_9 rfl hp9 (fun v9 h9 hq9 => ?_) (fun E9 h9 hx9 => ?_)
  · obtain ⟨r9, rfl, hw⟩ := hq9
    refine aw_i2l (pc := 12) C dL_put_12  ?_
    obtain ⟨⟨k9, hp9⟩, hw⟩ := hw
    refine aw_last (pc := 13) C dL_put_13 hp9 (aw_nmH (fun h13 e9 => ?_))
    have hw := hw h13 e9
    refine aw_goto (pc := 14) (tgt := 29) C dL_put_14 (by decide) ?_
    refine aw_iconst (pc := 29) C dL_put_29 (i := (0 : Int)) (by decide) ?_
    exact aw_iret (pc := 30) C hr dL_put_30 ⟨Nat.le_of_ble_eq_true rfl, Nat.le_of_ble_eq_true rfl⟩ ⟨_, rfl, hw⟩
  · rcases hx9 with ⟨rfl, hw⟩ | ⟨rfl, hw⟩ | ⟨rfl, hw⟩
    · refine ax_catch C htab [] ⟨0, 14, 17, 13⟩ [⟨0, 14, 21, 15⟩, ⟨0, 14, 25, 25⟩] rfl (fun _ h9 => nomatch h9) rfl (by decide) tw538 xcast_I (fun q9 => ?_)
      refine aw_astore (pc := 17) C dL_put_17 (by rw [hml]; decide) ?_
      refine aw_iconst (pc := 19) C dL_put_19 (i := (1 : Int)) (by decide) ?_
      exact aw_iret (pc := 20) C hr dL_put_20 ⟨Nat.le_of_ble_eq_true rfl, Nat.le_of_ble_eq_true rfl⟩ ⟨_, rfl, hw⟩
    · refine ax_catch C htab [⟨0, 14, 17, 13⟩] ⟨0, 14, 21, 15⟩ [⟨0, 14, 25, 25⟩] rfl (List.forall_mem_cons.mpr ⟨⟨by decide, _, tw538, by decide +kernel⟩, (fun _ h9 => nomatch h9)⟩) rfl (by decide) tw539 xcast_A (fun q9 => ?_)
      refine aw_astore (pc := 21) C dL_put_21 (by rw [hml]; decide) ?_
      refine aw_iconst (pc := 23) C dL_put_23 (i := (2 : Int)) (by decide) ?_
      exact aw_iret (pc := 24) C hr dL_put_24 ⟨Nat.le_of_ble_eq_true rfl, Nat.le_of_ble_eq_true rfl⟩ ⟨_, rfl, hw⟩
    · refine ax_catch C htab [⟨0, 14, 17, 13⟩, ⟨0, 14, 21, 15⟩] ⟨0, 14, 25, 25⟩ [] rfl (List.forall_mem_cons.mpr ⟨⟨by decide, _, tw538, by decide +kernel⟩, (List.forall_mem_cons.mpr ⟨⟨by decide, _, tw539, by decide +kernel⟩, (fun _ h9 => nomatch h9)⟩)⟩) rfl (by decide) tw661 xcast_S (fun q9 => ?_)
      refine aw_astore (pc := 25) C dL_put_25 (by rw [hml]; decide) ?_
      refine aw_iconst (pc := 27) C dL_put_27 (i := (3 : Int)) (by decide) ?_
      exact aw_iret (pc := 28) C hr dL_put_28 ⟨Nat.le_of_ble_eq_true rfl, Nat.le_of_ble_eq_true rfl⟩ ⟨_, rfl, hw⟩
theorem dL_undo_0 : decode cL_undo 0 = .ok (.aload_n 1, 1) := by decide +kernel
theorem dL_undo_1 : decode cL_undo 1 = .ok (.iconst 0, 1) := by decide +kernel
theorem dL_undo_2 : decode cL_undo 2 = .ok (.aload_n 0, 1) := by decide +kernel
theorem dL_undo_3 : decode cL_undo 3 = .ok (.invokevirtual 27, 3) := by decide +kernel
theorem dL_undo_6 : decode cL_undo 6 = .ok (.i2l, 1) := by decide +kernel
theorem dL_undo_7 : decode cL_undo 7 = .ok (.lastore, 1) := by decide +kernel
theorem dL_undo_8 : decode cL_undo 8 = .ok (.goto 6, 3) := by decide +kernel
theorem dL_undo_11 : decode cL_undo 11 = .ok (.astore_n 2, 1) := by decide +kernel
theorem dL_undo_12 : decode cL_undo 12 = .ok (.iconst 1, 1) := by decide +kernel
theorem dL_undo_13 : decode cL_undo 13 = .ok (.ireturn, 1) := by decide +kernel
theorem dL_undo_14 : decode cL_undo 14 = .ok (.iconst 0, 1) := by decide +kernel
theorem dL_undo_15 : decode cL_undo 15 = .ok (.ireturn, 1) := by decide +kernel
theorem pd_L_undo : (parseMethodDescriptor yL_undo.desc).map (fun d => d.parameters.length) = some 2 := by decide +kernel
def w_L_undo (zz : Nat → Nat) (a0 : Nat) (a1 : Nat) (h : AH) (Q : Int → AH → Prop) : Prop := okA h a0 6 ∧ w_X6_undo zz a0 h (fun (r3 : Int) (h3 : AH) => okV h3 a1 (0 : Int) ∧ ∀ h7 : AH, h7 = saL h3 a1 (u1 (haL h3 a1) (0 : Int) (Int64.ofInt r3)) → Q (0 : Int) h7) (fun (E9 : String) (h3 : AH) => (E9 = "java/lang/IllegalStateException" ∧ (Q (1 : Int) h3)))
set_option maxRecDepth 100000 in
set_option maxHeartbeats 4000000 in
theorem met_L_undo (G : GG) (l : Launch) (hst : l.stackTraces = false) : ∀ (As : List Value) (a0 : Nat) (a1 : Nat) (h : AH) (Q : Int → AH → Prop), As.map ab = List.map some ([vR a0, vR a1] : List AV) → w_L_undo G.2.2 a0 a1 h Q → Met l yL_undo (.codeWith yL_undo cL_undo 3 (some .int) [(0, 8, 11, 25)] :: xTb) ({ frames := 7, cells := 1, slots := 6, locals := 110 } : Room) (PcA G As h) (QG G (oI Q)) 1 6 (frA G) := by
  intro As a0 a1 h Q hA hw
  refine met_ofH hA (by decide) (Nat.le_of_ble_eq_true rfl) (fun p e s m args below meth c C hml hr hnm htab => ?_)
  unfold w_L_undo at hw
  refine aw_aload_n (pc := 0) C dL_undo_0 rfl rfl ?_
  refine aw_iconst (pc := 1) C dL_undo_1 (i := (0 : Int)) (by decide) ?_
  refine aw_aload_n (pc := 2) C dL_undo_2 rfl rfl ?_
  obtain ⟨hp9, hw⟩ := hw
  refine aw_callVX (pc := 3) (as := []) C ci6 (fun As hA => met_X6_undo G l hst As a0 _ _ _ hA hw) tw695 tw696 tw697 tw1 tw698 ⟨rfl, rfl⟩ ⟨rfl, by decide, by decide, pd_X6_undo⟩ ⟨Nat.le_of_ble_eq_true rfl, Nat.le_of_ble_eq_true rfl⟩ ⟨(Nat.le_of_ble_eq_true rfl), (Nat.le_of_ble_eq_true rfl)⟩ (Nat.le_of_ble_eq_true rfl) dL_undo_3 rfl hp9 (fun v9 h3 hq9 => ?_) (fun E9 h3 hx9 => ?_)
  · obtain ⟨r3, rfl, hw⟩ := hq9
    refine aw_i2l (pc := 6) C dL_undo_6  ?_
    obtain ⟨⟨k9, hp9⟩, hw⟩ := hw
    refine aw_last (pc := 7) C dL_undo_7 hp9 (aw_nmH (fun h7 e9 => ?_))
    have hw := hw h7 e9
    refine aw_goto (pc := 8) (tgt := 14) C dL_undo_8 (by decide) ?_
    refine aw_iconst (pc := 14) C dL_undo_14 (i := (0 : Int)) (by decide) ?_
    exact aw_iret (pc := 15) C hr dL_undo_15 ⟨Nat.le_of_ble_eq_true rfl, Nat.le_of_ble_eq_true rfl⟩ ⟨_, rfl, hw⟩
  · rcases hx9 with ⟨rfl, hw⟩
    · refine ax_catch C htab [] ⟨0, 8, 11, 25⟩ [] rfl (fun _ h9 => nomatch h9) rfl (by decide) tw661 xcast_S (fun q9 => ?_)
      refine aw_astore_n (pc := 11) C dL_undo_11 rfl (by rw [hml]; decide) ?_
      refine aw_iconst (pc := 12) C dL_undo_12 (i := (1 : Int)) (by decide) ?_
      exact aw_iret (pc := 13) C hr dL_undo_13 ⟨Nat.le_of_ble_eq_true rfl, Nat.le_of_ble_eq_true rfl⟩ ⟨_, rfl, hw⟩
theorem dL_append_0 : decode cL_append 0 = .ok (.aload_n 2, 1) := by decide +kernel
theorem dL_append_1 : decode cL_append 1 = .ok (.iconst 0, 1) := by decide +kernel
theorem dL_append_2 : decode cL_append 2 = .ok (.aload_n 0, 1) := by decide +kernel
theorem dL_append_3 : decode cL_append 3 = .ok (.iload_n 1, 1) := by decide +kernel
theorem dL_append_4 : decode cL_append 4 = .ok (.invokevirtual 31, 3) := by decide +kernel
theorem dL_append_7 : decode cL_append 7 = .ok (.i2l, 1) := by decide +kernel
theorem dL_append_8 : decode cL_append 8 = .ok (.lastore, 1) := by decide +kernel
theorem dL_append_9 : decode cL_append 9 = .ok (.goto 9, 3) := by decide +kernel
theorem dL_append_12 : decode cL_append 12 = .ok (.astore_n 3, 1) := by decide +kernel
theorem dL_append_13 : decode cL_append 13 = .ok (.iconst 1, 1) := by decide +kernel
theorem dL_append_14 : decode cL_append 14 = .ok (.ireturn, 1) := by decide +kernel
theorem dL_append_15 : decode cL_append 15 = .ok (.astore_n 3, 1) := by decide +kernel
theorem dL_append_16 : decode cL_append 16 = .ok (.iconst 2, 1) := by decide +kernel
theorem dL_append_17 : decode cL_append 17 = .ok (.ireturn, 1) := by decide +kernel
theorem dL_append_18 : decode cL_append 18 = .ok (.iconst 0, 1) := by decide +kernel
theorem dL_append_19 : decode cL_append 19 = .ok (.ireturn, 1) := by decide +kernel
theorem pd_L_append : (parseMethodDescriptor yL_append.desc).map (fun d => d.parameters.length) = some 3 := by decide +kernel
def w_L_append (zz : Nat → Nat) (a0 : Nat) (a1 : Int) (a2 : Nat) (h : AH) (Q : Int → AH → Prop) : Prop := okA h a0 6 ∧ w_X6_append zz a0 a1 h (fun (r4 : Int) (h4 : AH) => okV h4 a2 (0 : Int) ∧ ∀ h8 : AH, h8 = saL h4 a2 (u1 (haL h4 a2) (0 : Int) (Int64.ofInt r4)) → Q (0 : Int) h8) (fun (E9 : String) (h4 : AH) => (E9 = "java/lang/IllegalArgumentException" ∧ (Q (1 : Int) h4)) ∨ (E9 = "java/lang/IllegalStateException" ∧ (Q (2 : Int) h4)))
set_option maxRecDepth 100000 in
set_option maxHeartbeats 4000000 in
theorem met_L_append (G : GG) (l : Launch) (hst : l.stackTraces = false) : ∀ (As : List Value) (a0 : Nat) (a1 : Int) (a2 : Nat) (h : AH) (Q : Int → AH → Prop), As.map ab = List.map some ([vR a0, vI a1, vR a2] : List AV) → w_L_append G.2.2 a0 a1 a2 h Q → Met l yL_append (.codeWith yL_append cL_append 4 (some .int) [(0, 9, 12, 15), (0, 9, 15, 25)] :: xTb) ({ frames := 7, cells := 1, slots := 6, locals := 111 } : Room) (PcA G As h) (QG G (oI Q)) 1 6 (frA G) := by
  intro As a0 a1 a2 h Q hA hw
  refine met_ofH hA (by decide) (Nat.le_of_ble_eq_true rfl) (fun p e s m args below meth c C hml hr hnm htab => ?_)
  unfold w_L_append at hw
  refine aw_aload_n (pc := 0) C dL_append_0 rfl rfl ?_
  refine aw_iconst (pc := 1) C dL_append_1 (i := (0 : Int)) (by decide) ?_
  refine aw_aload_n (pc := 2) C dL_append_2 rfl rfl ?_
  refine aw_iload_n (pc := 3) C dL_append_3 rfl rfl ?_
  obtain ⟨hp9, hw⟩ := hw
  refine aw_callVX (pc := 4) (as := [vI a1]) C ci6 (fun As hA => met_X6_append G l hst As a0 a1 _ _ _ hA hw) tw703 tw704 tw705 tw1 tw706 ⟨rfl, rfl⟩ ⟨rfl, by decide, by decide, pd_X6_append⟩ ⟨Nat.le_of_ble_eq_true rfl, Nat.le_of_ble_eq_true rfl⟩ ⟨(Nat.le_of_ble_eq_true rfl), (Nat.le_of_ble_eq_true rfl)⟩ (Nat.le_of_ble_eq_true rfl) dL_append_4 rfl hp9 (fun v9 h4 hq9 => ?_) (fun E9 h4 hx9 => ?_)
  · obtain ⟨r4, rfl, hw⟩ := hq9
    refine aw_i2l (pc := 7) C dL_append_7  ?_
    obtain ⟨⟨k9, hp9⟩, hw⟩ := hw
    refine aw_last (pc := 8) C dL_append_8 hp9 (aw_nmH (fun h8 e9 => ?_))
    have hw := hw h8 e9
    refine aw_goto (pc := 9) (tgt := 18) C dL_append_9 (by decide) ?_
    refine aw_iconst (pc := 18) C dL_append_18 (i := (0 : Int)) (by decide) ?_
    exact aw_iret (pc := 19) C hr dL_append_19 ⟨Nat.le_of_ble_eq_true rfl, Nat.le_of_ble_eq_true rfl⟩ ⟨_, rfl, hw⟩
  · rcases hx9 with ⟨rfl, hw⟩ | ⟨rfl, hw⟩
    · refine ax_catch C htab [] ⟨0, 9, 12, 15⟩ [⟨0, 9, 15, 25⟩] rfl (fun _ h9 => nomatch h9) rfl (by decide) tw539 xcast_A (fun q9 => ?_)
      refine aw_astore_n (pc := 12) C dL_append_12 rfl (by rw [hml]; decide) ?_
      refine aw_iconst (pc := 13) C dL_append_13 (i := (1 : Int)) (by decide) ?_
      exact aw_iret (pc := 14) C hr dL_append_14 ⟨Nat.le_of_ble_eq_true rfl, Nat.le_of_ble_eq_true rfl⟩ ⟨_, rfl, hw⟩
    · refine ax_catch C htab [⟨0, 9, 12, 15⟩] ⟨0, 9, 15, 25⟩ [] rfl (List.forall_mem_cons.mpr ⟨⟨by decide, _, tw539, by decide +kernel⟩, (fun _ h9 => nomatch h9)⟩) rfl (by decide) tw661 xcast_S (fun q9 => ?_)
      refine aw_astore_n (pc := 15) C dL_append_15 rfl (by rw [hml]; decide) ?_
      refine aw_iconst (pc := 16) C dL_append_16 (i := (2 : Int)) (by decide) ?_
      exact aw_iret (pc := 17) C hr dL_append_17 ⟨Nat.le_of_ble_eq_true rfl, Nat.le_of_ble_eq_true rfl⟩ ⟨_, rfl, hw⟩
theorem dL_letter_0 : decode cL_letter 0 = .ok (.aload 4, 2) := by decide +kernel
theorem dL_letter_2 : decode cL_letter 2 = .ok (.iconst 0, 1) := by decide +kernel
theorem dL_letter_3 : decode cL_letter 3 = .ok (.aload_n 0, 1) := by decide +kernel
theorem dL_letter_4 : decode cL_letter 4 = .ok (.iload_n 1, 1) := by decide +kernel
theorem dL_letter_5 : decode cL_letter 5 = .ok (.iload_n 2, 1) := by decide +kernel
theorem dL_letter_6 : decode cL_letter 6 = .ok (.iload_n 3, 1) := by decide +kernel
theorem dL_letter_7 : decode cL_letter 7 = .ok (.invokevirtual 34, 3) := by decide +kernel
theorem dL_letter_10 : decode cL_letter 10 = .ok (.i2l, 1) := by decide +kernel
theorem dL_letter_11 : decode cL_letter 11 = .ok (.lastore, 1) := by decide +kernel
theorem dL_letter_12 : decode cL_letter 12 = .ok (.goto 11, 3) := by decide +kernel
theorem dL_letter_15 : decode cL_letter 15 = .ok (.astore 5, 2) := by decide +kernel
theorem dL_letter_17 : decode cL_letter 17 = .ok (.iconst 1, 1) := by decide +kernel
theorem dL_letter_18 : decode cL_letter 18 = .ok (.ireturn, 1) := by decide +kernel
theorem dL_letter_19 : decode cL_letter 19 = .ok (.astore 5, 2) := by decide +kernel
theorem dL_letter_21 : decode cL_letter 21 = .ok (.iconst 2, 1) := by decide +kernel
theorem dL_letter_22 : decode cL_letter 22 = .ok (.ireturn, 1) := by decide +kernel
theorem dL_letter_23 : decode cL_letter 23 = .ok (.iconst 0, 1) := by decide +kernel
theorem dL_letter_24 : decode cL_letter 24 = .ok (.ireturn, 1) := by decide +kernel
theorem pd_L_letter : (parseMethodDescriptor yL_letter.desc).map (fun d => d.parameters.length) = some 5 := by decide +kernel
def w_L_letter (zz : Nat → Nat) (a0 : Nat) (a1 : Int) (a2 : Int) (a3 : Int) (a4 : Nat) (h : AH) (Q : Int → AH → Prop) : Prop := okA h a0 6 ∧ w_X6_letter zz a0 a1 a2 a3 h (fun (r7 : Int) (h7 : AH) => okV h7 a4 (0 : Int) ∧ ∀ h11 : AH, h11 = saL h7 a4 (u1 (haL h7 a4) (0 : Int) (Int64.ofInt r7)) → Q (0 : Int) h11) (fun (E9 : String) (h7 : AH) => (E9 = "java/lang/IndexOutOfBoundsException" ∧ (Q (1 : Int) h7)) ∨ (E9 = "java/lang/IllegalArgumentException" ∧ (Q (2 : Int) h7)))
set_option maxRecDepth 100000 in
set_option maxHeartbeats 4000000 in
theorem met_L_letter (G : GG) (l : Launch) (hst : l.stackTraces = false) : ∀ (As : List Value) (a0 : Nat) (a1 : Int) (a2 : Int) (a3 : Int) (a4 : Nat) (h : AH) (Q : Int → AH → Prop), As.map ab = List.map some ([vR a0, vI a1, vI a2, vI a3, vR a4] : List AV) → w_L_letter G.2.2 a0 a1 a2 a3 a4 h Q → Met l yL_letter (.codeWith yL_letter cL_letter 6 (some .int) [(0, 12, 15, 13), (0, 12, 19, 15)] :: xTb) ({ frames := 7, cells := 1, slots := 6, locals := 159 } : Room) (PcA G As h) (QG G (oI Q)) 1 6 (frA G) := by
  intro As a0 a1 a2 a3 a4 h Q hA hw
  refine met_ofH hA (by decide) (Nat.le_of_ble_eq_true rfl) (fun p e s m args below meth c C hml hr hnm htab => ?_)
  unfold w_L_letter at hw
  refine aw_aload (pc := 0) C dL_letter_0 rfl ?_
  refine aw_iconst (pc := 2) C dL_letter_2 (i := (0 : Int)) (by decide) ?_
  refine aw_aload_n (pc := 3) C dL_letter_3 rfl rfl ?_
  refine aw_iload_n (pc := 4) C dL_letter_4 rfl rfl ?_
  refine aw_iload_n (pc := 5) C dL_letter_5 rfl rfl ?_
  refine aw_iload_n (pc := 6) C dL_letter_6 rfl rfl ?_
  obtain ⟨hp9, hw⟩ := hw
  refine aw_callVX (pc := 7) (as := [vI a1, vI a2, vI a3]) C ci6 (fun As hA => met_X6_letter G l hst As a0 a1 a2 a3 _ _ _ hA hw) tw712 tw713 tw714 tw1 tw715 ⟨rfl, rfl⟩ ⟨rfl, by decide, by decide, pd_X6_letter⟩ ⟨Nat.le_of_ble_eq_true rfl, Nat.le_of_ble_eq_true rfl⟩ ⟨(Nat.le_of_ble_eq_true rfl), (Nat.le_of_ble_eq_true rfl)⟩ (Nat.le_of_ble_eq_true rfl) dL_letter_7 rfl hp9 (fun v9 h7 hq9 => ?_) (fun E9 h7 hx9 => ?_)
  · obtain ⟨r7, rfl, hw⟩ := hq9
    refine aw_i2l (pc := 10) C dL_letter_10  ?_
    obtain ⟨⟨k9, hp9⟩, hw⟩ := hw
    refine aw_last (pc := 11) C dL_letter_11 hp9 (aw_nmH (fun h11 e9 => ?_))
    have hw := hw h11 e9
    refine aw_goto (pc := 12) (tgt := 23) C dL_letter_12 (by decide) ?_
    refine aw_iconst (pc := 23) C dL_letter_23 (i := (0 : Int)) (by decide) ?_
    exact aw_iret (pc := 24) C hr dL_letter_24 ⟨Nat.le_of_ble_eq_true rfl, Nat.le_of_ble_eq_true rfl⟩ ⟨_, rfl, hw⟩
  · rcases hx9 with ⟨rfl, hw⟩ | ⟨rfl, hw⟩
    · refine ax_catch C htab [] ⟨0, 12, 15, 13⟩ [⟨0, 12, 19, 15⟩] rfl (fun _ h9 => nomatch h9) rfl (by decide) tw538 xcast_I (fun q9 => ?_)
      refine aw_astore (pc := 15) C dL_letter_15 (by rw [hml]; decide) ?_
      refine aw_iconst (pc := 17) C dL_letter_17 (i := (1 : Int)) (by decide) ?_
      exact aw_iret (pc := 18) C hr dL_letter_18 ⟨Nat.le_of_ble_eq_true rfl, Nat.le_of_ble_eq_true rfl⟩ ⟨_, rfl, hw⟩
    · refine ax_catch C htab [⟨0, 12, 15, 13⟩] ⟨0, 12, 19, 15⟩ [] rfl (List.forall_mem_cons.mpr ⟨⟨by decide, _, tw538, by decide +kernel⟩, (fun _ h9 => nomatch h9)⟩) rfl (by decide) tw539 xcast_A (fun q9 => ?_)
      refine aw_astore (pc := 19) C dL_letter_19 (by rw [hml]; decide) ?_
      refine aw_iconst (pc := 21) C dL_letter_21 (i := (2 : Int)) (by decide) ?_
      exact aw_iret (pc := 22) C hr dL_letter_22 ⟨Nat.le_of_ble_eq_true rfl, Nat.le_of_ble_eq_true rfl⟩ ⟨_, rfl, hw⟩
theorem dL_way_0 : decode cL_way 0 = .ok (.aload_n 3, 1) := by decide +kernel
theorem dL_way_1 : decode cL_way 1 = .ok (.iconst 0, 1) := by decide +kernel
theorem dL_way_2 : decode cL_way 2 = .ok (.aload_n 0, 1) := by decide +kernel
theorem dL_way_3 : decode cL_way 3 = .ok (.iload_n 1, 1) := by decide +kernel
theorem dL_way_4 : decode cL_way 4 = .ok (.iload_n 2, 1) := by decide +kernel
theorem dL_way_5 : decode cL_way 5 = .ok (.invokevirtual 38, 3) := by decide +kernel
theorem dL_way_8 : decode cL_way 8 = .ok (.i2l, 1) := by decide +kernel
theorem dL_way_9 : decode cL_way 9 = .ok (.lastore, 1) := by decide +kernel
theorem dL_way_10 : decode cL_way 10 = .ok (.goto 11, 3) := by decide +kernel
theorem dL_way_13 : decode cL_way 13 = .ok (.astore 4, 2) := by decide +kernel
theorem dL_way_15 : decode cL_way 15 = .ok (.iconst 1, 1) := by decide +kernel
theorem dL_way_16 : decode cL_way 16 = .ok (.ireturn, 1) := by decide +kernel
theorem dL_way_17 : decode cL_way 17 = .ok (.astore 4, 2) := by decide +kernel
theorem dL_way_19 : decode cL_way 19 = .ok (.iconst 2, 1) := by decide +kernel
theorem dL_way_20 : decode cL_way 20 = .ok (.ireturn, 1) := by decide +kernel
theorem dL_way_21 : decode cL_way 21 = .ok (.iconst 0, 1) := by decide +kernel
theorem dL_way_22 : decode cL_way 22 = .ok (.ireturn, 1) := by decide +kernel
theorem pd_L_way : (parseMethodDescriptor yL_way.desc).map (fun d => d.parameters.length) = some 4 := by decide +kernel
def w_L_way (zz : Nat → Nat) (a0 : Nat) (a1 : Int) (a2 : Int) (a3 : Nat) (h : AH) (Q : Int → AH → Prop) : Prop := okA h a0 6 ∧ w_X6_way zz a0 a1 a2 h (fun (r5 : Int) (h5 : AH) => okV h5 a3 (0 : Int) ∧ ∀ h9 : AH, h9 = saL h5 a3 (u1 (haL h5 a3) (0 : Int) (Int64.ofInt r5)) → Q (0 : Int) h9) (fun (E9 : String) (h5 : AH) => (E9 = "java/lang/IndexOutOfBoundsException" ∧ (Q (1 : Int) h5)) ∨ (E9 = "java/lang/IllegalArgumentException" ∧ (Q (2 : Int) h5)))
set_option maxRecDepth 100000 in
set_option maxHeartbeats 4000000 in
theorem met_L_way (G : GG) (l : Launch) (hst : l.stackTraces = false) : ∀ (As : List Value) (a0 : Nat) (a1 : Int) (a2 : Int) (a3 : Nat) (h : AH) (Q : Int → AH → Prop), As.map ab = List.map some ([vR a0, vI a1, vI a2, vR a3] : List AV) → w_L_way G.2.2 a0 a1 a2 a3 h Q → Met l yL_way (.codeWith yL_way cL_way 5 (some .int) [(0, 10, 13, 13), (0, 10, 17, 15)] :: xTb) ({ frames := 7, cells := 1, slots := 6, locals := 158 } : Room) (PcA G As h) (QG G (oI Q)) 1 6 (frA G) := by
  intro As a0 a1 a2 a3 h Q hA hw
  refine met_ofH hA (by decide) (Nat.le_of_ble_eq_true rfl) (fun p e s m args below meth c C hml hr hnm htab => ?_)
  unfold w_L_way at hw
  refine aw_aload_n (pc := 0) C dL_way_0 rfl rfl ?_
  refine aw_iconst (pc := 1) C dL_way_1 (i := (0 : Int)) (by decide) ?_
  refine aw_aload_n (pc := 2) C dL_way_2 rfl rfl ?_
  refine aw_iload_n (pc := 3) C dL_way_3 rfl rfl ?_
  refine aw_iload_n (pc := 4) C dL_way_4 rfl rfl ?_
  obtain ⟨hp9, hw⟩ := hw
  refine aw_callVX (pc := 5) (as := [vI a1, vI a2]) C ci6 (fun As hA => met_X6_way G l hst As a0 a1 a2 _ _ _ hA hw) tw721 tw722 tw723 tw1 tw724 ⟨rfl, rfl⟩ ⟨rfl, by decide, by decide, pd_X6_way⟩ ⟨Nat.le_of_ble_eq_true rfl, Nat.le_of_ble_eq_true rfl⟩ ⟨(Nat.le_of_ble_eq_true rfl), (Nat.le_of_ble_eq_true rfl)⟩ (Nat.le_of_ble_eq_true rfl) dL_way_5 rfl hp9 (fun v9 h5 hq9 => ?_) (fun E9 h5 hx9 => ?_)
  · obtain ⟨r5, rfl, hw⟩ := hq9
    refine aw_i2l (pc := 8) C dL_way_8  ?_
    obtain ⟨⟨k9, hp9⟩, hw⟩ := hw
    refine aw_last (pc := 9) C dL_way_9 hp9 (aw_nmH (fun h9 e9 => ?_))
    have hw := hw h9 e9
    refine aw_goto (pc := 10) (tgt := 21) C dL_way_10 (by decide) ?_
    refine aw_iconst (pc := 21) C dL_way_21 (i := (0 : Int)) (by decide) ?_
    exact aw_iret (pc := 22) C hr dL_way_22 ⟨Nat.le_of_ble_eq_true rfl, Nat.le_of_ble_eq_true rfl⟩ ⟨_, rfl, hw⟩
  · rcases hx9 with ⟨rfl, hw⟩ | ⟨rfl, hw⟩
    · refine ax_catch C htab [] ⟨0, 10, 13, 13⟩ [⟨0, 10, 17, 15⟩] rfl (fun _ h9 => nomatch h9) rfl (by decide) tw538 xcast_I (fun q9 => ?_)
      refine aw_astore (pc := 13) C dL_way_13 (by rw [hml]; decide) ?_
      refine aw_iconst (pc := 15) C dL_way_15 (i := (1 : Int)) (by decide) ?_
      exact aw_iret (pc := 16) C hr dL_way_16 ⟨Nat.le_of_ble_eq_true rfl, Nat.le_of_ble_eq_true rfl⟩ ⟨_, rfl, hw⟩
    · refine ax_catch C htab [⟨0, 10, 13, 13⟩] ⟨0, 10, 17, 15⟩ [] rfl (List.forall_mem_cons.mpr ⟨⟨by decide, _, tw538, by decide +kernel⟩, (fun _ h9 => nomatch h9)⟩) rfl (by decide) tw539 xcast_A (fun q9 => ?_)
      refine aw_astore (pc := 17) C dL_way_17 (by rw [hml]; decide) ?_
      refine aw_iconst (pc := 19) C dL_way_19 (i := (2 : Int)) (by decide) ?_
      exact aw_iret (pc := 20) C hr dL_way_20 ⟨Nat.le_of_ble_eq_true rfl, Nat.le_of_ble_eq_true rfl⟩ ⟨_, rfl, hw⟩
theorem dL_at_0 : decode cL_at 0 = .ok (.aload 4, 2) := by decide +kernel
theorem dL_at_2 : decode cL_at 2 = .ok (.iconst 0, 1) := by decide +kernel
theorem dL_at_3 : decode cL_at 3 = .ok (.aload_n 0, 1) := by decide +kernel
theorem dL_at_4 : decode cL_at 4 = .ok (.iload_n 1, 1) := by decide +kernel
theorem dL_at_5 : decode cL_at 5 = .ok (.iload_n 2, 1) := by decide +kernel
theorem dL_at_6 : decode cL_at 6 = .ok (.iload_n 3, 1) := by decide +kernel
theorem dL_at_7 : decode cL_at 7 = .ok (.invokevirtual 41, 3) := by decide +kernel
theorem dL_at_10 : decode cL_at 10 = .ok (.i2l, 1) := by decide +kernel
theorem dL_at_11 : decode cL_at 11 = .ok (.lastore, 1) := by decide +kernel
theorem dL_at_12 : decode cL_at 12 = .ok (.goto 7, 3) := by decide +kernel
theorem dL_at_15 : decode cL_at 15 = .ok (.astore 5, 2) := by decide +kernel
theorem dL_at_17 : decode cL_at 17 = .ok (.iconst 1, 1) := by decide +kernel
theorem dL_at_18 : decode cL_at 18 = .ok (.ireturn, 1) := by decide +kernel
theorem dL_at_19 : decode cL_at 19 = .ok (.iconst 0, 1) := by decide +kernel
theorem dL_at_20 : decode cL_at 20 = .ok (.ireturn, 1) := by decide +kernel
theorem pd_L_at : (parseMethodDescriptor yL_at.desc).map (fun d => d.parameters.length) = some 5 := by decide +kernel
def w_L_at (zz : Nat → Nat) (a0 : Nat) (a1 : Int) (a2 : Int) (a3 : Int) (a4 : Nat) (h : AH) (Q : Int → AH → Prop) : Prop := okA h a0 6 ∧ w_X6_at zz a0 a1 a2 a3 h (fun (r7 : Int) (h7 : AH) => okV h7 a4 (0 : Int) ∧ ∀ h11 : AH, h11 = saL h7 a4 (u1 (haL h7 a4) (0 : Int) (Int64.ofInt r7)) → Q (0 : Int) h11) (fun (E9 : String) (h7 : AH) => (E9 = "java/lang/IndexOutOfBoundsException" ∧ (Q (1 : Int) h7)))
set_option maxRecDepth 100000 in
set_option maxHeartbeats 4000000 in
theorem met_L_at (G : GG) (l : Launch) (hst : l.stackTraces = false) : ∀ (As : List Value) (a0 : Nat) (a1 : Int) (a2 : Int) (a3 : Int) (a4 : Nat) (h : AH) (Q : Int → AH → Prop), As.map ab = List.map some ([vR a0, vI a1, vI a2, vI a3, vR a4] : List AV) → w_L_at G.2.2 a0 a1 a2 a3 a4 h Q → Met l yL_at (.codeWith yL_at cL_at 6 (some .int) [(0, 12, 15, 13)] :: xTb) ({ frames := 7, cells := 1, slots := 6, locals := 159 } : Room) (PcA G As h) (QG G (oI Q)) 1 6 (frA G) := by
  intro As a0 a1 a2 a3 a4 h Q hA hw
  refine met_ofH hA (by decide) (Nat.le_of_ble_eq_true rfl) (fun p e s m args below meth c C hml hr hnm htab => ?_)
  unfold w_L_at at hw
  refine aw_aload (pc := 0) C dL_at_0 rfl ?_
  refine aw_iconst (pc := 2) C dL_at_2 (i := (0 : Int)) (by decide) ?_
  refine aw_aload_n (pc := 3) C dL_at_3 rfl rfl ?_
  refine aw_iload_n (pc := 4) C dL_at_4 rfl rfl ?_
  refine aw_iload_n (pc := 5) C dL_at_5 rfl rfl ?_
  refine aw_iload_n (pc := 6) C dL_at_6 rfl rfl ?_
  obtain ⟨hp9, hw⟩ := hw
  refine aw_callVX (pc := 7) (as := [vI a1, vI a2, vI a3]) C ci6 (fun As hA => met_X6_at G l hst As a0 a1 a2 a3 _ _ _ hA hw) tw733 tw734 tw735 tw1 tw736 ⟨rfl, rfl⟩ ⟨rfl, by decide, by decide, pd_X6_at⟩ ⟨Nat.le_of_ble_eq_true rfl, Nat.le_of_ble_eq_true rfl⟩ ⟨(Nat.le_of_ble_eq_true rfl), (Nat.le_of_ble_eq_true rfl)⟩ (Nat.le_of_ble_eq_true rfl) dL_at_7 rfl hp9 (fun v9 h7 hq9 => ?_) (fun E9 h7 hx9 => ?_)
  · obtain ⟨r7, rfl, hw⟩ := hq9
    refine aw_i2l (pc := 10) C dL_at_10  ?_
    obtain ⟨⟨k9, hp9⟩, hw⟩ := hw
    refine aw_last (pc := 11) C dL_at_11 hp9 (aw_nmH (fun h11 e9 => ?_))
    have hw := hw h11 e9
    refine aw_goto (pc := 12) (tgt := 19) C dL_at_12 (by decide) ?_
    refine aw_iconst (pc := 19) C dL_at_19 (i := (0 : Int)) (by decide) ?_
    exact aw_iret (pc := 20) C hr dL_at_20 ⟨Nat.le_of_ble_eq_true rfl, Nat.le_of_ble_eq_true rfl⟩ ⟨_, rfl, hw⟩
  · rcases hx9 with ⟨rfl, hw⟩
    · refine ax_catch C htab [] ⟨0, 12, 15, 13⟩ [] rfl (fun _ h9 => nomatch h9) rfl (by decide) tw538 xcast_I (fun q9 => ?_)
      refine aw_astore (pc := 15) C dL_at_15 (by rw [hml]; decide) ?_
      refine aw_iconst (pc := 17) C dL_at_17 (i := (1 : Int)) (by decide) ?_
      exact aw_iret (pc := 18) C hr dL_at_18 ⟨Nat.le_of_ble_eq_true rfl, Nat.le_of_ble_eq_true rfl⟩ ⟨_, rfl, hw⟩
theorem dL_place_0 : decode cL_place 0 = .ok (.aload_n 3, 1) := by decide +kernel
theorem dL_place_1 : decode cL_place 1 = .ok (.iconst 0, 1) := by decide +kernel
theorem dL_place_2 : decode cL_place 2 = .ok (.aload_n 0, 1) := by decide +kernel
theorem dL_place_3 : decode cL_place 3 = .ok (.iload_n 1, 1) := by decide +kernel
theorem dL_place_4 : decode cL_place 4 = .ok (.iload_n 2, 1) := by decide +kernel
theorem dL_place_5 : decode cL_place 5 = .ok (.invokevirtual 44, 3) := by decide +kernel
theorem dL_place_8 : decode cL_place 8 = .ok (.i2l, 1) := by decide +kernel
theorem dL_place_9 : decode cL_place 9 = .ok (.lastore, 1) := by decide +kernel
theorem dL_place_10 : decode cL_place 10 = .ok (.goto 7, 3) := by decide +kernel
theorem dL_place_13 : decode cL_place 13 = .ok (.astore 4, 2) := by decide +kernel
theorem dL_place_15 : decode cL_place 15 = .ok (.iconst 1, 1) := by decide +kernel
theorem dL_place_16 : decode cL_place 16 = .ok (.ireturn, 1) := by decide +kernel
theorem dL_place_17 : decode cL_place 17 = .ok (.iconst 0, 1) := by decide +kernel
theorem dL_place_18 : decode cL_place 18 = .ok (.ireturn, 1) := by decide +kernel
theorem pd_L_place : (parseMethodDescriptor yL_place.desc).map (fun d => d.parameters.length) = some 4 := by decide +kernel
def w_L_place (zz : Nat → Nat) (a0 : Nat) (a1 : Int) (a2 : Int) (a3 : Nat) (h : AH) (Q : Int → AH → Prop) : Prop := okA h a0 6 ∧ w_X6_place zz a0 a1 a2 h (fun (r5 : Int) (h5 : AH) => okV h5 a3 (0 : Int) ∧ ∀ h9 : AH, h9 = saL h5 a3 (u1 (haL h5 a3) (0 : Int) (Int64.ofInt r5)) → Q (0 : Int) h9) (fun (E9 : String) (h5 : AH) => (E9 = "java/lang/IndexOutOfBoundsException" ∧ (Q (1 : Int) h5)))
set_option maxRecDepth 100000 in
set_option maxHeartbeats 4000000 in
theorem met_L_place (G : GG) (l : Launch) (hst : l.stackTraces = false) : ∀ (As : List Value) (a0 : Nat) (a1 : Int) (a2 : Int) (a3 : Nat) (h : AH) (Q : Int → AH → Prop), As.map ab = List.map some ([vR a0, vI a1, vI a2, vR a3] : List AV) → w_L_place G.2.2 a0 a1 a2 a3 h Q → Met l yL_place (.codeWith yL_place cL_place 5 (some .int) [(0, 10, 13, 13)] :: xTb) ({ frames := 7, cells := 1, slots := 6, locals := 158 } : Room) (PcA G As h) (QG G (oI Q)) 1 6 (frA G) := by
  intro As a0 a1 a2 a3 h Q hA hw
  refine met_ofH hA (by decide) (Nat.le_of_ble_eq_true rfl) (fun p e s m args below meth c C hml hr hnm htab => ?_)
  unfold w_L_place at hw
  refine aw_aload_n (pc := 0) C dL_place_0 rfl rfl ?_
  refine aw_iconst (pc := 1) C dL_place_1 (i := (0 : Int)) (by decide) ?_
  refine aw_aload_n (pc := 2) C dL_place_2 rfl rfl ?_
  refine aw_iload_n (pc := 3) C dL_place_3 rfl rfl ?_
  refine aw_iload_n (pc := 4) C dL_place_4 rfl rfl ?_
  obtain ⟨hp9, hw⟩ := hw
  refine aw_callVX (pc := 5) (as := [vI a1, vI a2]) C ci6 (fun As hA => met_X6_place G l hst As a0 a1 a2 _ _ _ hA hw) tw745 tw746 tw747 tw1 tw748 ⟨rfl, rfl⟩ ⟨rfl, by decide, by decide, pd_X6_place⟩ ⟨Nat.le_of_ble_eq_true rfl, Nat.le_of_ble_eq_true rfl⟩ ⟨(Nat.le_of_ble_eq_true rfl), (Nat.le_of_ble_eq_true rfl)⟩ (Nat.le_of_ble_eq_true rfl) dL_place_5 rfl hp9 (fun v9 h5 hq9 => ?_) (fun E9 h5 hx9 => ?_)
  · obtain ⟨r5, rfl, hw⟩ := hq9
    refine aw_i2l (pc := 8) C dL_place_8  ?_
    obtain ⟨⟨k9, hp9⟩, hw⟩ := hw
    refine aw_last (pc := 9) C dL_place_9 hp9 (aw_nmH (fun h9 e9 => ?_))
    have hw := hw h9 e9
    refine aw_goto (pc := 10) (tgt := 17) C dL_place_10 (by decide) ?_
    refine aw_iconst (pc := 17) C dL_place_17 (i := (0 : Int)) (by decide) ?_
    exact aw_iret (pc := 18) C hr dL_place_18 ⟨Nat.le_of_ble_eq_true rfl, Nat.le_of_ble_eq_true rfl⟩ ⟨_, rfl, hw⟩
  · rcases hx9 with ⟨rfl, hw⟩
    · refine ax_catch C htab [] ⟨0, 10, 13, 13⟩ [] rfl (fun _ h9 => nomatch h9) rfl (by decide) tw538 xcast_I (fun q9 => ?_)
      refine aw_astore (pc := 13) C dL_place_13 (by rw [hml]; decide) ?_
      refine aw_iconst (pc := 15) C dL_place_15 (i := (1 : Int)) (by decide) ?_
      exact aw_iret (pc := 16) C hr dL_place_16 ⟨Nat.le_of_ble_eq_true rfl, Nat.le_of_ble_eq_true rfl⟩ ⟨_, rfl, hw⟩
theorem dL_frame_0 : decode cL_frame 0 = .ok (.aload_n 3, 1) := by decide +kernel
theorem dL_frame_1 : decode cL_frame 1 = .ok (.iconst 0, 1) := by decide +kernel
theorem dL_frame_2 : decode cL_frame 2 = .ok (.aload_n 0, 1) := by decide +kernel
theorem dL_frame_3 : decode cL_frame 3 = .ok (.iload_n 1, 1) := by decide +kernel
theorem dL_frame_4 : decode cL_frame 4 = .ok (.iload_n 2, 1) := by decide +kernel
theorem dL_frame_5 : decode cL_frame 5 = .ok (.invokevirtual 47, 3) := by decide +kernel
theorem dL_frame_8 : decode cL_frame 8 = .ok (.i2l, 1) := by decide +kernel
theorem dL_frame_9 : decode cL_frame 9 = .ok (.lastore, 1) := by decide +kernel
theorem dL_frame_10 : decode cL_frame 10 = .ok (.goto 11, 3) := by decide +kernel
theorem dL_frame_13 : decode cL_frame 13 = .ok (.astore 4, 2) := by decide +kernel
theorem dL_frame_15 : decode cL_frame 15 = .ok (.iconst 1, 1) := by decide +kernel
theorem dL_frame_16 : decode cL_frame 16 = .ok (.ireturn, 1) := by decide +kernel
theorem dL_frame_17 : decode cL_frame 17 = .ok (.astore 4, 2) := by decide +kernel
theorem dL_frame_19 : decode cL_frame 19 = .ok (.iconst 2, 1) := by decide +kernel
theorem dL_frame_20 : decode cL_frame 20 = .ok (.ireturn, 1) := by decide +kernel
theorem dL_frame_21 : decode cL_frame 21 = .ok (.iconst 0, 1) := by decide +kernel
theorem dL_frame_22 : decode cL_frame 22 = .ok (.ireturn, 1) := by decide +kernel
theorem pd_L_frame : (parseMethodDescriptor yL_frame.desc).map (fun d => d.parameters.length) = some 4 := by decide +kernel
def w_L_frame (zz : Nat → Nat) (a0 : Nat) (a1 : Int) (a2 : Int) (a3 : Nat) (h : AH) (Q : Int → AH → Prop) : Prop := okA h a0 6 ∧ w_X6_frame zz a0 a1 a2 h (fun (r5 : Int) (h5 : AH) => okV h5 a3 (0 : Int) ∧ ∀ h9 : AH, h9 = saL h5 a3 (u1 (haL h5 a3) (0 : Int) (Int64.ofInt r5)) → Q (0 : Int) h9) (fun (E9 : String) (h5 : AH) => (E9 = "java/lang/IndexOutOfBoundsException" ∧ (Q (1 : Int) h5)) ∨ (E9 = "java/lang/IllegalArgumentException" ∧ (Q (2 : Int) h5)))
set_option maxRecDepth 100000 in
set_option maxHeartbeats 4000000 in
theorem met_L_frame (G : GG) (l : Launch) (hst : l.stackTraces = false) : ∀ (As : List Value) (a0 : Nat) (a1 : Int) (a2 : Int) (a3 : Nat) (h : AH) (Q : Int → AH → Prop), As.map ab = List.map some ([vR a0, vI a1, vI a2, vR a3] : List AV) → w_L_frame G.2.2 a0 a1 a2 a3 h Q → Met l yL_frame (.codeWith yL_frame cL_frame 5 (some .int) [(0, 10, 13, 13), (0, 10, 17, 15)] :: xTb) ({ frames := 7, cells := 1, slots := 6, locals := 158 } : Room) (PcA G As h) (QG G (oI Q)) 1 6 (frA G) := by
  intro As a0 a1 a2 a3 h Q hA hw
  refine met_ofH hA (by decide) (Nat.le_of_ble_eq_true rfl) (fun p e s m args below meth c C hml hr hnm htab => ?_)
  unfold w_L_frame at hw
  refine aw_aload_n (pc := 0) C dL_frame_0 rfl rfl ?_
  refine aw_iconst (pc := 1) C dL_frame_1 (i := (0 : Int)) (by decide) ?_
  refine aw_aload_n (pc := 2) C dL_frame_2 rfl rfl ?_
  refine aw_iload_n (pc := 3) C dL_frame_3 rfl rfl ?_
  refine aw_iload_n (pc := 4) C dL_frame_4 rfl rfl ?_
  obtain ⟨hp9, hw⟩ := hw
  refine aw_callVX (pc := 5) (as := [vI a1, vI a2]) C ci6 (fun As hA => met_X6_frame G l hst As a0 a1 a2 _ _ _ hA hw) tw754 tw755 tw756 tw1 tw757 ⟨rfl, rfl⟩ ⟨rfl, by decide, by decide, pd_X6_frame⟩ ⟨Nat.le_of_ble_eq_true rfl, Nat.le_of_ble_eq_true rfl⟩ ⟨(Nat.le_of_ble_eq_true rfl), (Nat.le_of_ble_eq_true rfl)⟩ (Nat.le_of_ble_eq_true rfl) dL_frame_5 rfl hp9 (fun v9 h5 hq9 => ?_) (fun E9 h5 hx9 => ?_)
  · obtain ⟨r5, rfl, hw⟩ := hq9
    refine aw_i2l (pc := 8) C dL_frame_8  ?_
    obtain ⟨⟨k9, hp9⟩, hw⟩ := hw
    refine aw_last (pc := 9) C dL_frame_9 hp9 (aw_nmH (fun h9 e9 => ?_))
    have hw := hw h9 e9
    refine aw_goto (pc := 10) (tgt := 21) C dL_frame_10 (by decide) ?_
    refine aw_iconst (pc := 21) C dL_frame_21 (i := (0 : Int)) (by decide) ?_
    exact aw_iret (pc := 22) C hr dL_frame_22 ⟨Nat.le_of_ble_eq_true rfl, Nat.le_of_ble_eq_true rfl⟩ ⟨_, rfl, hw⟩
  · rcases hx9 with ⟨rfl, hw⟩ | ⟨rfl, hw⟩
    · refine ax_catch C htab [] ⟨0, 10, 13, 13⟩ [⟨0, 10, 17, 15⟩] rfl (fun _ h9 => nomatch h9) rfl (by decide) tw538 xcast_I (fun q9 => ?_)
      refine aw_astore (pc := 13) C dL_frame_13 (by rw [hml]; decide) ?_
      refine aw_iconst (pc := 15) C dL_frame_15 (i := (1 : Int)) (by decide) ?_
      exact aw_iret (pc := 16) C hr dL_frame_16 ⟨Nat.le_of_ble_eq_true rfl, Nat.le_of_ble_eq_true rfl⟩ ⟨_, rfl, hw⟩
    · refine ax_catch C htab [⟨0, 10, 13, 13⟩] ⟨0, 10, 17, 15⟩ [] rfl (List.forall_mem_cons.mpr ⟨⟨by decide, _, tw538, by decide +kernel⟩, (fun _ h9 => nomatch h9)⟩) rfl (by decide) tw539 xcast_A (fun q9 => ?_)
      refine aw_astore (pc := 17) C dL_frame_17 (by rw [hml]; decide) ?_
      refine aw_iconst (pc := 19) C dL_frame_19 (i := (2 : Int)) (by decide) ?_
      exact aw_iret (pc := 20) C hr dL_frame_20 ⟨Nat.le_of_ble_eq_true rfl, Nat.le_of_ble_eq_true rfl⟩ ⟨_, rfl, hw⟩
theorem dL_count_0 : decode cL_count 0 = .ok (.aload_n 2, 1) := by decide +kernel
theorem dL_count_1 : decode cL_count 1 = .ok (.iconst 0, 1) := by decide +kernel
theorem dL_count_2 : decode cL_count 2 = .ok (.aload_n 0, 1) := by decide +kernel
theorem dL_count_3 : decode cL_count 3 = .ok (.iload_n 1, 1) := by decide +kernel
theorem dL_count_4 : decode cL_count 4 = .ok (.invokevirtual 50, 3) := by decide +kernel
theorem dL_count_7 : decode cL_count 7 = .ok (.i2l, 1) := by decide +kernel
theorem dL_count_8 : decode cL_count 8 = .ok (.lastore, 1) := by decide +kernel
theorem dL_count_9 : decode cL_count 9 = .ok (.goto 6, 3) := by decide +kernel
theorem dL_count_12 : decode cL_count 12 = .ok (.astore_n 3, 1) := by decide +kernel
theorem dL_count_13 : decode cL_count 13 = .ok (.iconst 1, 1) := by decide +kernel
theorem dL_count_14 : decode cL_count 14 = .ok (.ireturn, 1) := by decide +kernel
theorem dL_count_15 : decode cL_count 15 = .ok (.iconst 0, 1) := by decide +kernel
theorem dL_count_16 : decode cL_count 16 = .ok (.ireturn, 1) := by decide +kernel
theorem pd_L_count : (parseMethodDescriptor yL_count.desc).map (fun d => d.parameters.length) = some 3 := by decide +kernel
def w_L_count (zz : Nat → Nat) (a0 : Nat) (a1 : Int) (a2 : Nat) (h : AH) (Q : Int → AH → Prop) : Prop := okA h a0 6 ∧ w_X6_count zz a0 a1 h (fun (r4 : Int) (h4 : AH) => okV h4 a2 (0 : Int) ∧ ∀ h8 : AH, h8 = saL h4 a2 (u1 (haL h4 a2) (0 : Int) (Int64.ofInt r4)) → Q (0 : Int) h8) (fun (E9 : String) (h4 : AH) => (E9 = "java/lang/IllegalArgumentException" ∧ (Q (1 : Int) h4)))
set_option maxRecDepth 100000 in
set_option maxHeartbeats 4000000 in
theorem met_L_count (G : GG) (l : Launch) (hst : l.stackTraces = false) : ∀ (As : List Value) (a0 : Nat) (a1 : Int) (a2 : Nat) (h : AH) (Q : Int → AH → Prop), As.map ab = List.map some ([vR a0, vI a1, vR a2] : List AV) → w_L_count G.2.2 a0 a1 a2 h Q → Met l yL_count (.codeWith yL_count cL_count 4 (some .int) [(0, 9, 12, 15)] :: xTb) ({ frames := 7, cells := 1, slots := 6, locals := 157 } : Room) (PcA G As h) (QG G (oI Q)) 1 6 (frA G) := by
  intro As a0 a1 a2 h Q hA hw
  refine met_ofH hA (by decide) (Nat.le_of_ble_eq_true rfl) (fun p e s m args below meth c C hml hr hnm htab => ?_)
  unfold w_L_count at hw
  refine aw_aload_n (pc := 0) C dL_count_0 rfl rfl ?_
  refine aw_iconst (pc := 1) C dL_count_1 (i := (0 : Int)) (by decide) ?_
  refine aw_aload_n (pc := 2) C dL_count_2 rfl rfl ?_
  refine aw_iload_n (pc := 3) C dL_count_3 rfl rfl ?_
  obtain ⟨hp9, hw⟩ := hw
  refine aw_callVX (pc := 4) (as := [vI a1]) C ci6 (fun As hA => met_X6_count G l hst As a0 a1 _ _ _ hA hw) tw762 tw763 tw764 tw1 tw765 ⟨rfl, rfl⟩ ⟨rfl, by decide, by decide, pd_X6_count⟩ ⟨Nat.le_of_ble_eq_true rfl, Nat.le_of_ble_eq_true rfl⟩ ⟨(Nat.le_of_ble_eq_true rfl), (Nat.le_of_ble_eq_true rfl)⟩ (Nat.le_of_ble_eq_true rfl) dL_count_4 rfl hp9 (fun v9 h4 hq9 => ?_) (fun E9 h4 hx9 => ?_)
  · obtain ⟨r4, rfl, hw⟩ := hq9
    refine aw_i2l (pc := 7) C dL_count_7  ?_
    obtain ⟨⟨k9, hp9⟩, hw⟩ := hw
    refine aw_last (pc := 8) C dL_count_8 hp9 (aw_nmH (fun h8 e9 => ?_))
    have hw := hw h8 e9
    refine aw_goto (pc := 9) (tgt := 15) C dL_count_9 (by decide) ?_
    refine aw_iconst (pc := 15) C dL_count_15 (i := (0 : Int)) (by decide) ?_
    exact aw_iret (pc := 16) C hr dL_count_16 ⟨Nat.le_of_ble_eq_true rfl, Nat.le_of_ble_eq_true rfl⟩ ⟨_, rfl, hw⟩
  · rcases hx9 with ⟨rfl, hw⟩
    · refine ax_catch C htab [] ⟨0, 9, 12, 15⟩ [] rfl (fun _ h9 => nomatch h9) rfl (by decide) tw539 xcast_A (fun q9 => ?_)
      refine aw_astore_n (pc := 12) C dL_count_12 rfl (by rw [hml]; decide) ?_
      refine aw_iconst (pc := 13) C dL_count_13 (i := (1 : Int)) (by decide) ?_
      exact aw_iret (pc := 14) C hr dL_count_14 ⟨Nat.le_of_ble_eq_true rfl, Nat.le_of_ble_eq_true rfl⟩ ⟨_, rfl, hw⟩
theorem dL_setting_0 : decode cL_setting 0 = .ok (.aload_n 2, 1) := by decide +kernel
theorem dL_setting_1 : decode cL_setting 1 = .ok (.iconst 0, 1) := by decide +kernel
theorem dL_setting_2 : decode cL_setting 2 = .ok (.aload_n 0, 1) := by decide +kernel
theorem dL_setting_3 : decode cL_setting 3 = .ok (.iload_n 1, 1) := by decide +kernel
theorem dL_setting_4 : decode cL_setting 4 = .ok (.invokevirtual 53, 3) := by decide +kernel
theorem dL_setting_7 : decode cL_setting 7 = .ok (.i2l, 1) := by decide +kernel
theorem dL_setting_8 : decode cL_setting 8 = .ok (.lastore, 1) := by decide +kernel
theorem dL_setting_9 : decode cL_setting 9 = .ok (.goto 6, 3) := by decide +kernel
theorem dL_setting_12 : decode cL_setting 12 = .ok (.astore_n 3, 1) := by decide +kernel
theorem dL_setting_13 : decode cL_setting 13 = .ok (.iconst 1, 1) := by decide +kernel
theorem dL_setting_14 : decode cL_setting 14 = .ok (.ireturn, 1) := by decide +kernel
theorem dL_setting_15 : decode cL_setting 15 = .ok (.iconst 0, 1) := by decide +kernel
theorem dL_setting_16 : decode cL_setting 16 = .ok (.ireturn, 1) := by decide +kernel
theorem pd_L_setting : (parseMethodDescriptor yL_setting.desc).map (fun d => d.parameters.length) = some 3 := by decide +kernel
def w_L_setting (zz : Nat → Nat) (a0 : Nat) (a1 : Int) (a2 : Nat) (h : AH) (Q : Int → AH → Prop) : Prop := okA h a0 6 ∧ w_X6_setting zz a0 a1 h (fun (r4 : Int) (h4 : AH) => okV h4 a2 (0 : Int) ∧ ∀ h8 : AH, h8 = saL h4 a2 (u1 (haL h4 a2) (0 : Int) (Int64.ofInt r4)) → Q (0 : Int) h8) (fun (E9 : String) (h4 : AH) => (E9 = "java/lang/IndexOutOfBoundsException" ∧ (Q (1 : Int) h4)))
set_option maxRecDepth 100000 in
set_option maxHeartbeats 4000000 in
theorem met_L_setting (G : GG) (l : Launch) (hst : l.stackTraces = false) : ∀ (As : List Value) (a0 : Nat) (a1 : Int) (a2 : Nat) (h : AH) (Q : Int → AH → Prop), As.map ab = List.map some ([vR a0, vI a1, vR a2] : List AV) → w_L_setting G.2.2 a0 a1 a2 h Q → Met l yL_setting (.codeWith yL_setting cL_setting 4 (some .int) [(0, 9, 12, 13)] :: xTb) ({ frames := 7, cells := 1, slots := 6, locals := 111 } : Room) (PcA G As h) (QG G (oI Q)) 1 6 (frA G) := by
  intro As a0 a1 a2 h Q hA hw
  refine met_ofH hA (by decide) (Nat.le_of_ble_eq_true rfl) (fun p e s m args below meth c C hml hr hnm htab => ?_)
  unfold w_L_setting at hw
  refine aw_aload_n (pc := 0) C dL_setting_0 rfl rfl ?_
  refine aw_iconst (pc := 1) C dL_setting_1 (i := (0 : Int)) (by decide) ?_
  refine aw_aload_n (pc := 2) C dL_setting_2 rfl rfl ?_
  refine aw_iload_n (pc := 3) C dL_setting_3 rfl rfl ?_
  obtain ⟨hp9, hw⟩ := hw
  refine aw_callVX (pc := 4) (as := [vI a1]) C ci6 (fun As hA => met_X6_setting G l hst As a0 a1 _ _ _ hA hw) tw770 tw771 tw772 tw1 tw773 ⟨rfl, rfl⟩ ⟨rfl, by decide, by decide, pd_X6_setting⟩ ⟨Nat.le_of_ble_eq_true rfl, Nat.le_of_ble_eq_true rfl⟩ ⟨(Nat.le_of_ble_eq_true rfl), (Nat.le_of_ble_eq_true rfl)⟩ (Nat.le_of_ble_eq_true rfl) dL_setting_4 rfl hp9 (fun v9 h4 hq9 => ?_) (fun E9 h4 hx9 => ?_)
  · obtain ⟨r4, rfl, hw⟩ := hq9
    refine aw_i2l (pc := 7) C dL_setting_7  ?_
    obtain ⟨⟨k9, hp9⟩, hw⟩ := hw
    refine aw_last (pc := 8) C dL_setting_8 hp9 (aw_nmH (fun h8 e9 => ?_))
    have hw := hw h8 e9
    refine aw_goto (pc := 9) (tgt := 15) C dL_setting_9 (by decide) ?_
    refine aw_iconst (pc := 15) C dL_setting_15 (i := (0 : Int)) (by decide) ?_
    exact aw_iret (pc := 16) C hr dL_setting_16 ⟨Nat.le_of_ble_eq_true rfl, Nat.le_of_ble_eq_true rfl⟩ ⟨_, rfl, hw⟩
  · rcases hx9 with ⟨rfl, hw⟩
    · refine ax_catch C htab [] ⟨0, 9, 12, 13⟩ [] rfl (fun _ h9 => nomatch h9) rfl (by decide) tw538 xcast_I (fun q9 => ?_)
      refine aw_astore_n (pc := 12) C dL_setting_12 rfl (by rw [hml]; decide) ?_
      refine aw_iconst (pc := 13) C dL_setting_13 (i := (1 : Int)) (by decide) ?_
      exact aw_iret (pc := 14) C hr dL_setting_14 ⟨Nat.le_of_ble_eq_true rfl, Nat.le_of_ble_eq_true rfl⟩ ⟨_, rfl, hw⟩
theorem dL_ifSet_0 : decode cL_ifSet 0 = .ok (.aload 4, 2) := by decide +kernel
theorem dL_ifSet_2 : decode cL_ifSet 2 = .ok (.iconst 0, 1) := by decide +kernel
theorem dL_ifSet_3 : decode cL_ifSet 3 = .ok (.aload_n 0, 1) := by decide +kernel
theorem dL_ifSet_4 : decode cL_ifSet 4 = .ok (.iload_n 1, 1) := by decide +kernel
theorem dL_ifSet_5 : decode cL_ifSet 5 = .ok (.iload_n 2, 1) := by decide +kernel
theorem dL_ifSet_6 : decode cL_ifSet 6 = .ok (.iload_n 3, 1) := by decide +kernel
theorem dL_ifSet_7 : decode cL_ifSet 7 = .ok (.invokevirtual 56, 3) := by decide +kernel
theorem dL_ifSet_10 : decode cL_ifSet 10 = .ok (.i2l, 1) := by decide +kernel
theorem dL_ifSet_11 : decode cL_ifSet 11 = .ok (.lastore, 1) := by decide +kernel
theorem dL_ifSet_12 : decode cL_ifSet 12 = .ok (.goto 11, 3) := by decide +kernel
theorem dL_ifSet_15 : decode cL_ifSet 15 = .ok (.astore 5, 2) := by decide +kernel
theorem dL_ifSet_17 : decode cL_ifSet 17 = .ok (.iconst 1, 1) := by decide +kernel
theorem dL_ifSet_18 : decode cL_ifSet 18 = .ok (.ireturn, 1) := by decide +kernel
theorem dL_ifSet_19 : decode cL_ifSet 19 = .ok (.astore 5, 2) := by decide +kernel
theorem dL_ifSet_21 : decode cL_ifSet 21 = .ok (.iconst 2, 1) := by decide +kernel
theorem dL_ifSet_22 : decode cL_ifSet 22 = .ok (.ireturn, 1) := by decide +kernel
theorem dL_ifSet_23 : decode cL_ifSet 23 = .ok (.iconst 0, 1) := by decide +kernel
theorem dL_ifSet_24 : decode cL_ifSet 24 = .ok (.ireturn, 1) := by decide +kernel
theorem pd_L_ifSet : (parseMethodDescriptor yL_ifSet.desc).map (fun d => d.parameters.length) = some 5 := by decide +kernel
def w_L_ifSet (zz : Nat → Nat) (a0 : Nat) (a1 : Int) (a2 : Int) (a3 : Int) (a4 : Nat) (h : AH) (Q : Int → AH → Prop) : Prop := okA h a0 6 ∧ w_X6_ifSet zz a0 a1 a2 a3 h (fun (r7 : Int) (h7 : AH) => okV h7 a4 (0 : Int) ∧ ∀ h11 : AH, h11 = saL h7 a4 (u1 (haL h7 a4) (0 : Int) (Int64.ofInt r7)) → Q (0 : Int) h11) (fun (E9 : String) (h7 : AH) => (E9 = "java/lang/IndexOutOfBoundsException" ∧ (Q (1 : Int) h7)) ∨ (E9 = "java/lang/IllegalArgumentException" ∧ (Q (2 : Int) h7)))
set_option maxRecDepth 100000 in
set_option maxHeartbeats 4000000 in
theorem met_L_ifSet (G : GG) (l : Launch) (hst : l.stackTraces = false) : ∀ (As : List Value) (a0 : Nat) (a1 : Int) (a2 : Int) (a3 : Int) (a4 : Nat) (h : AH) (Q : Int → AH → Prop), As.map ab = List.map some ([vR a0, vI a1, vI a2, vI a3, vR a4] : List AV) → w_L_ifSet G.2.2 a0 a1 a2 a3 a4 h Q → Met l yL_ifSet (.codeWith yL_ifSet cL_ifSet 6 (some .int) [(0, 12, 15, 13), (0, 12, 19, 15)] :: xTb) ({ frames := 7, cells := 1, slots := 6, locals := 139 } : Room) (PcA G As h) (QG G (oI Q)) 1 6 (frA G) := by
  intro As a0 a1 a2 a3 a4 h Q hA hw
  refine met_ofH hA (by decide) (Nat.le_of_ble_eq_true rfl) (fun p e s m args below meth c C hml hr hnm htab => ?_)
  unfold w_L_ifSet at hw
  refine aw_aload (pc := 0) C dL_ifSet_0 rfl ?_
  refine aw_iconst (pc := 2) C dL_ifSet_2 (i := (0 : Int)) (by decide) ?_
  refine aw_aload_n (pc := 3) C dL_ifSet_3 rfl rfl ?_
  refine aw_iload_n (pc := 4) C dL_ifSet_4 rfl rfl ?_
  refine aw_iload_n (pc := 5) C dL_ifSet_5 rfl rfl ?_
  refine aw_iload_n (pc := 6) C dL_ifSet_6 rfl rfl ?_
  obtain ⟨hp9, hw⟩ := hw
  refine aw_callVX (pc := 7) (as := [vI a1, vI a2, vI a3]) C ci6 (fun As hA => met_X6_ifSet G l hst As a0 a1 a2 a3 _ _ _ hA hw) tw777 tw778 tw779 tw1 tw780 ⟨rfl, rfl⟩ ⟨rfl, by decide, by decide, pd_X6_ifSet⟩ ⟨Nat.le_of_ble_eq_true rfl, Nat.le_of_ble_eq_true rfl⟩ ⟨(Nat.le_of_ble_eq_true rfl), (Nat.le_of_ble_eq_true rfl)⟩ (Nat.le_of_ble_eq_true rfl) dL_ifSet_7 rfl hp9 (fun v9 h7 hq9 => ?_) (fun E9 h7 hx9 => ?_)
  · obtain ⟨r7, rfl, hw⟩ := hq9
    refine aw_i2l (pc := 10) C dL_ifSet_10  ?_
    obtain ⟨⟨k9, hp9⟩, hw⟩ := hw
    refine aw_last (pc := 11) C dL_ifSet_11 hp9 (aw_nmH (fun h11 e9 => ?_))
    have hw := hw h11 e9
    refine aw_goto (pc := 12) (tgt := 23) C dL_ifSet_12 (by decide) ?_
    refine aw_iconst (pc := 23) C dL_ifSet_23 (i := (0 : Int)) (by decide) ?_
    exact aw_iret (pc := 24) C hr dL_ifSet_24 ⟨Nat.le_of_ble_eq_true rfl, Nat.le_of_ble_eq_true rfl⟩ ⟨_, rfl, hw⟩
  · rcases hx9 with ⟨rfl, hw⟩ | ⟨rfl, hw⟩
    · refine ax_catch C htab [] ⟨0, 12, 15, 13⟩ [⟨0, 12, 19, 15⟩] rfl (fun _ h9 => nomatch h9) rfl (by decide) tw538 xcast_I (fun q9 => ?_)
      refine aw_astore (pc := 15) C dL_ifSet_15 (by rw [hml]; decide) ?_
      refine aw_iconst (pc := 17) C dL_ifSet_17 (i := (1 : Int)) (by decide) ?_
      exact aw_iret (pc := 18) C hr dL_ifSet_18 ⟨Nat.le_of_ble_eq_true rfl, Nat.le_of_ble_eq_true rfl⟩ ⟨_, rfl, hw⟩
    · refine ax_catch C htab [⟨0, 12, 15, 13⟩] ⟨0, 12, 19, 15⟩ [] rfl (List.forall_mem_cons.mpr ⟨⟨by decide, _, tw538, by decide +kernel⟩, (fun _ h9 => nomatch h9)⟩) rfl (by decide) tw539 xcast_A (fun q9 => ?_)
      refine aw_astore (pc := 19) C dL_ifSet_19 (by rw [hml]; decide) ?_
      refine aw_iconst (pc := 21) C dL_ifSet_21 (i := (2 : Int)) (by decide) ?_
      exact aw_iret (pc := 22) C hr dL_ifSet_22 ⟨Nat.le_of_ble_eq_true rfl, Nat.le_of_ble_eq_true rfl⟩ ⟨_, rfl, hw⟩
