/-! THE METHODS, BY PROGRAM (wip/whole/gen.py): what each means (w_..), and its contract (met_..) -/
theorem dX3_init_0 : decode cX3_init 0 = .ok (.aload_n 0, 1) := by decide +kernel
theorem dX3_init_1 : decode cX3_init 1 = .ok (.invokespecial 3, 3) := by decide +kernel
theorem dX3_init_4 : decode cX3_init 4 = .ok (.aload_n 0, 1) := by decide +kernel
theorem dX3_init_5 : decode cX3_init 5 = .ok (.bipush 40, 2) := by decide +kernel
theorem dX3_init_7 : decode cX3_init 7 = .ok (.newarray .int, 2) := by decide +kernel
theorem dX3_init_9 : decode cX3_init 9 = .ok (.putfield 9, 3) := by decide +kernel
theorem dX3_init_12 : decode cX3_init 12 = .ok (.aload_n 0, 1) := by decide +kernel
theorem dX3_init_13 : decode cX3_init 13 = .ok (.bipush 40, 2) := by decide +kernel
theorem dX3_init_15 : decode cX3_init 15 = .ok (.newarray .int, 2) := by decide +kernel
theorem dX3_init_17 : decode cX3_init 17 = .ok (.putfield 15, 3) := by decide +kernel
theorem dX3_init_20 : decode cX3_init 20 = .ok (.aload_n 0, 1) := by decide +kernel
theorem dX3_init_21 : decode cX3_init 21 = .ok (.bipush 40, 2) := by decide +kernel
theorem dX3_init_23 : decode cX3_init 23 = .ok (.newarray .int, 2) := by decide +kernel
theorem dX3_init_25 : decode cX3_init 25 = .ok (.putfield 18, 3) := by decide +kernel
theorem dX3_init_28 : decode cX3_init 28 = .ok (.aload_n 0, 1) := by decide +kernel
theorem dX3_init_29 : decode cX3_init 29 = .ok (.bipush 40, 2) := by decide +kernel
theorem dX3_init_31 : decode cX3_init 31 = .ok (.newarray .int, 2) := by decide +kernel
theorem dX3_init_33 : decode cX3_init 33 = .ok (.putfield 21, 3) := by decide +kernel
theorem dX3_init_36 : decode cX3_init 36 = .ok (.aload_n 0, 1) := by decide +kernel
theorem dX3_init_37 : decode cX3_init 37 = .ok (.bipush 6, 2) := by decide +kernel
theorem dX3_init_39 : decode cX3_init 39 = .ok (.newarray .int, 2) := by decide +kernel
theorem dX3_init_41 : decode cX3_init 41 = .ok (.putfield 24, 3) := by decide +kernel
theorem dX3_init_44 : decode cX3_init 44 = .ok (.aload_n 0, 1) := by decide +kernel
theorem dX3_init_45 : decode cX3_init 45 = .ok (.sipush 1681, 3) := by decide +kernel
theorem dX3_init_48 : decode cX3_init 48 = .ok (.newarray .int, 2) := by decide +kernel
theorem dX3_init_50 : decode cX3_init 50 = .ok (.putfield 27, 3) := by decide +kernel
theorem dX3_init_53 : decode cX3_init 53 = .ok (.aload_n 0, 1) := by decide +kernel
theorem dX3_init_54 : decode cX3_init 54 = .ok (.aload_n 1, 1) := by decide +kernel
theorem dX3_init_55 : decode cX3_init 55 = .ok (.putfield 30, 3) := by decide +kernel
theorem dX3_init_58 : decode cX3_init 58 = .ok (.return_, 1) := by decide +kernel
theorem pd_X3_init : (parseMethodDescriptor yX3_init.desc).map (fun d => d.parameters.length) = some 1 := by decide +kernel
def w_X3_init (zz : Nat → Nat) (a0 : Nat) (a1 : Nat) (h : AH) (Q : AH → Prop) : Prop := ∀ h7 : AH, h7 = nAI h 40 → okP h7 a0 3 ∧ ∀ h9 : AH, h9 = sfR h7 a0 0 (some (hn h)) → ∀ h15 : AH, h15 = nAI h9 40 → okP h15 a0 3 ∧ ∀ h17 : AH, h17 = sfR h15 a0 1 (some (hn h9)) → ∀ h23 : AH, h23 = nAI h17 40 → okP h23 a0 3 ∧ ∀ h25 : AH, h25 = sfR h23 a0 2 (some (hn h17)) → ∀ h31 : AH, h31 = nAI h25 40 → okP h31 a0 3 ∧ ∀ h33 : AH, h33 = sfR h31 a0 3 (some (hn h25)) → ∀ h39 : AH, h39 = nAI h33 6 → okP h39 a0 3 ∧ ∀ h41 : AH, h41 = sfR h39 a0 4 (some (hn h33)) → ∀ h48 : AH, h48 = nAI h41 1681 → okP h48 a0 3 ∧ ∀ h50 : AH, h50 = sfR h48 a0 6 (some (hn h41)) → okP h50 a0 3 ∧ ∀ h55 : AH, h55 = sfR h50 a0 5 (some a1) → Q h55
set_option maxRecDepth 100000 in
set_option maxHeartbeats 4000000 in
theorem met_X3_init (G : GG) (l : Launch) : ∀ (As : List Value) (a0 : Nat) (a1 : Nat) (h : AH) (Q : AH → Prop), As.map ab = List.map some ([vR a0, vR a1] : List AV) → w_X3_init G.2.2 a0 a1 h Q → Met l yX3_init (.code yX3_init cX3_init 2 none :: xTb) ({ frames := 1, cells := 6, slots := 1847, locals := 20 } : Room) (PcA G As h) (QG G (oV Q)) 6 1847 (frA G) := by
  intro As a0 a1 h Q hA hw
  refine met_of hA (by decide) (Nat.le_of_ble_eq_true rfl) (fun p e s m args below meth c C hml hr hnm => ?_)
  unfold w_X3_init at hw
  refine aw_aload_n (pc := 0) C dX3_init_0 rfl rfl ?_
  refine aw_objInit (pc := 1) C tw88 tw23 tw24 ⟨Nat.le_of_ble_eq_true rfl, Nat.le_of_ble_eq_true rfl⟩ (Nat.le_of_ble_eq_true rfl) dX3_init_1 ?_
  refine aw_aload_n (pc := 4) C dX3_init_4 rfl rfl ?_
  refine aw_bipush (pc := 5) C dX3_init_5 (i := (40 : Int)) (by decide) ?_
  refine aw_newI (pc := 7) (n := 40) C tw57 dX3_init_7 (Nat.le_of_ble_eq_true rfl) (Nat.le_of_ble_eq_true rfl) (Nat.le_of_ble_eq_true rfl) (aw_nmH (fun h7 e9 => ?_))
  have hw := hw h7 e9
  obtain ⟨hp9, hw⟩ := hw
  refine aw_putR (pc := 9) C (ci := 3) (k := 0) ci3 (by decide) tw89 (Or.inr ⟨rfl, hnm, rfl⟩) dX3_init_9 rfl hp9 (aw_nmH (fun h9 e9 => ?_))
  have hw := hw h9 e9
  refine aw_aload_n (pc := 12) C dX3_init_12 rfl rfl ?_
  refine aw_bipush (pc := 13) C dX3_init_13 (i := (40 : Int)) (by decide) ?_
  refine aw_newI (pc := 15) (n := 40) C tw57 dX3_init_15 (Nat.le_of_ble_eq_true rfl) (Nat.le_of_ble_eq_true rfl) (Nat.le_of_ble_eq_true rfl) (aw_nmH (fun h15 e9 => ?_))
  have hw := hw h15 e9
  obtain ⟨hp9, hw⟩ := hw
  refine aw_putR (pc := 17) C (ci := 3) (k := 1) ci3 (by decide) tw92 (Or.inr ⟨rfl, hnm, rfl⟩) dX3_init_17 rfl hp9 (aw_nmH (fun h17 e9 => ?_))
  have hw := hw h17 e9
  refine aw_aload_n (pc := 20) C dX3_init_20 rfl rfl ?_
  refine aw_bipush (pc := 21) C dX3_init_21 (i := (40 : Int)) (by decide) ?_
  refine aw_newI (pc := 23) (n := 40) C tw57 dX3_init_23 (Nat.le_of_ble_eq_true rfl) (Nat.le_of_ble_eq_true rfl) (Nat.le_of_ble_eq_true rfl) (aw_nmH (fun h23 e9 => ?_))
  have hw := hw h23 e9
  obtain ⟨hp9, hw⟩ := hw
  refine aw_putR (pc := 25) C (ci := 3) (k := 2) ci3 (by decide) tw94 (Or.inr ⟨rfl, hnm, rfl⟩) dX3_init_25 rfl hp9 (aw_nmH (fun h25 e9 => ?_))
  have hw := hw h25 e9
  refine aw_aload_n (pc := 28) C dX3_init_28 rfl rfl ?_
  refine aw_bipush (pc := 29) C dX3_init_29 (i := (40 : Int)) (by decide) ?_
  refine aw_newI (pc := 31) (n := 40) C tw57 dX3_init_31 (Nat.le_of_ble_eq_true rfl) (Nat.le_of_ble_eq_true rfl) (Nat.le_of_ble_eq_true rfl) (aw_nmH (fun h31 e9 => ?_))
  have hw := hw h31 e9
  obtain ⟨hp9, hw⟩ := hw
  refine aw_putR (pc := 33) C (ci := 3) (k := 3) ci3 (by decide) tw96 (Or.inr ⟨rfl, hnm, rfl⟩) dX3_init_33 rfl hp9 (aw_nmH (fun h33 e9 => ?_))
  have hw := hw h33 e9
  refine aw_aload_n (pc := 36) C dX3_init_36 rfl rfl ?_
  refine aw_bipush (pc := 37) C dX3_init_37 (i := (6 : Int)) (by decide) ?_
  refine aw_newI (pc := 39) (n := 6) C tw57 dX3_init_39 (Nat.le_of_ble_eq_true rfl) (Nat.le_of_ble_eq_true rfl) (Nat.le_of_ble_eq_true rfl) (aw_nmH (fun h39 e9 => ?_))
  have hw := hw h39 e9
  obtain ⟨hp9, hw⟩ := hw
  refine aw_putR (pc := 41) C (ci := 3) (k := 4) ci3 (by decide) tw98 (Or.inr ⟨rfl, hnm, rfl⟩) dX3_init_41 rfl hp9 (aw_nmH (fun h41 e9 => ?_))
  have hw := hw h41 e9
  refine aw_aload_n (pc := 44) C dX3_init_44 rfl rfl ?_
  refine aw_sipush (pc := 45) C dX3_init_45 (i := (1681 : Int)) (by decide) ?_
  refine aw_newI (pc := 48) (n := 1681) C tw57 dX3_init_48 (Nat.le_of_ble_eq_true rfl) (Nat.le_of_ble_eq_true rfl) (Nat.le_of_ble_eq_true rfl) (aw_nmH (fun h48 e9 => ?_))
  have hw := hw h48 e9
  obtain ⟨hp9, hw⟩ := hw
  refine aw_putR (pc := 50) C (ci := 3) (k := 6) ci3 (by decide) tw103 (Or.inr ⟨rfl, hnm, rfl⟩) dX3_init_50 rfl hp9 (aw_nmH (fun h50 e9 => ?_))
  have hw := hw h50 e9
  refine aw_aload_n (pc := 53) C dX3_init_53 rfl rfl ?_
  refine aw_aload_n (pc := 54) C dX3_init_54 rfl rfl ?_
  obtain ⟨hp9, hw⟩ := hw
  refine aw_putR (pc := 55) C (ci := 3) (k := 5) ci3 (by decide) tw102 (Or.inr ⟨rfl, hnm, rfl⟩) dX3_init_55 rfl hp9 (aw_nmH (fun h55 e9 => ?_))
  have hw := hw h55 e9
  exact aw_vret (pc := 58) C hr dX3_init_58 ⟨Nat.le_of_ble_eq_true rfl, Nat.le_of_ble_eq_true rfl⟩ ⟨rfl, hw⟩
theorem dX3_unpairAll_0 : decode cX3_unpairAll 0 = .ok (.aload_n 0, 1) := by decide +kernel
theorem dX3_unpairAll_1 : decode cX3_unpairAll 1 = .ok (.getfield 9, 3) := by decide +kernel
theorem dX3_unpairAll_4 : decode cX3_unpairAll 4 = .ok (.iconst (-1), 1) := by decide +kernel
theorem dX3_unpairAll_5 : decode cX3_unpairAll 5 = .ok (.invokestatic 67, 3) := by decide +kernel
theorem dX3_unpairAll_8 : decode cX3_unpairAll 8 = .ok (.aload_n 0, 1) := by decide +kernel
theorem dX3_unpairAll_9 : decode cX3_unpairAll 9 = .ok (.getfield 15, 3) := by decide +kernel
theorem dX3_unpairAll_12 : decode cX3_unpairAll 12 = .ok (.iconst (-1), 1) := by decide +kernel
theorem dX3_unpairAll_13 : decode cX3_unpairAll 13 = .ok (.invokestatic 67, 3) := by decide +kernel
theorem dX3_unpairAll_16 : decode cX3_unpairAll 16 = .ok (.aload_n 0, 1) := by decide +kernel
theorem dX3_unpairAll_17 : decode cX3_unpairAll 17 = .ok (.getfield 18, 3) := by decide +kernel
theorem dX3_unpairAll_20 : decode cX3_unpairAll 20 = .ok (.iconst 4, 1) := by decide +kernel
theorem dX3_unpairAll_21 : decode cX3_unpairAll 21 = .ok (.invokestatic 67, 3) := by decide +kernel
theorem dX3_unpairAll_24 : decode cX3_unpairAll 24 = .ok (.aload_n 0, 1) := by decide +kernel
theorem dX3_unpairAll_25 : decode cX3_unpairAll 25 = .ok (.getfield 21, 3) := by decide +kernel
theorem dX3_unpairAll_28 : decode cX3_unpairAll 28 = .ok (.iconst 5, 1) := by decide +kernel
theorem dX3_unpairAll_29 : decode cX3_unpairAll 29 = .ok (.invokestatic 67, 3) := by decide +kernel
theorem dX3_unpairAll_32 : decode cX3_unpairAll 32 = .ok (.aload_n 0, 1) := by decide +kernel
theorem dX3_unpairAll_33 : decode cX3_unpairAll 33 = .ok (.getfield 24, 3) := by decide +kernel
theorem dX3_unpairAll_36 : decode cX3_unpairAll 36 = .ok (.iconst 0, 1) := by decide +kernel
theorem dX3_unpairAll_37 : decode cX3_unpairAll 37 = .ok (.invokestatic 67, 3) := by decide +kernel
theorem dX3_unpairAll_40 : decode cX3_unpairAll 40 = .ok (.aload_n 0, 1) := by decide +kernel
theorem dX3_unpairAll_41 : decode cX3_unpairAll 41 = .ok (.getfield 24, 3) := by decide +kernel
theorem dX3_unpairAll_44 : decode cX3_unpairAll 44 = .ok (.iconst 4, 1) := by decide +kernel
theorem dX3_unpairAll_45 : decode cX3_unpairAll 45 = .ok (.aload_n 0, 1) := by decide +kernel
theorem dX3_unpairAll_46 : decode cX3_unpairAll 46 = .ok (.getfield 30, 3) := by decide +kernel
theorem dX3_unpairAll_49 : decode cX3_unpairAll 49 = .ok (.iconst 0, 1) := by decide +kernel
theorem dX3_unpairAll_50 : decode cX3_unpairAll 50 = .ok (.invokevirtual 49, 3) := by decide +kernel
theorem dX3_unpairAll_53 : decode cX3_unpairAll 53 = .ok (.getfield 73, 3) := by decide +kernel
theorem dX3_unpairAll_56 : decode cX3_unpairAll 56 = .ok (.iastore, 1) := by decide +kernel
theorem dX3_unpairAll_57 : decode cX3_unpairAll 57 = .ok (.aload_n 0, 1) := by decide +kernel
theorem dX3_unpairAll_58 : decode cX3_unpairAll 58 = .ok (.getfield 24, 3) := by decide +kernel
theorem dX3_unpairAll_61 : decode cX3_unpairAll 61 = .ok (.iconst 5, 1) := by decide +kernel
theorem dX3_unpairAll_62 : decode cX3_unpairAll 62 = .ok (.aload_n 0, 1) := by decide +kernel
theorem dX3_unpairAll_63 : decode cX3_unpairAll 63 = .ok (.getfield 30, 3) := by decide +kernel
theorem dX3_unpairAll_66 : decode cX3_unpairAll 66 = .ok (.iconst 1, 1) := by decide +kernel
theorem dX3_unpairAll_67 : decode cX3_unpairAll 67 = .ok (.invokevirtual 49, 3) := by decide +kernel
theorem dX3_unpairAll_70 : decode cX3_unpairAll 70 = .ok (.getfield 73, 3) := by decide +kernel
theorem dX3_unpairAll_73 : decode cX3_unpairAll 73 = .ok (.iastore, 1) := by decide +kernel
theorem dX3_unpairAll_74 : decode cX3_unpairAll 74 = .ok (.return_, 1) := by decide +kernel
theorem pd_X3_unpairAll : (parseMethodDescriptor yX3_unpairAll.desc).map (fun d => d.parameters.length) = some 0 := by decide +kernel
def w_X3_unpairAll (zz : Nat → Nat) (a0 : Nat) (h : AH) (Q : AH → Prop) : Prop := okA h a0 3 ∧ ∃ b1 : Nat, hfR h a0 0 = some b1 ∧ w_J7_fill_53178 zz b1 (-1 : Int) h (fun  (h5 : AH) => okA h5 a0 3 ∧ ∃ b9 : Nat, hfR h5 a0 1 = some b9 ∧ w_J7_fill_53178 zz b9 (-1 : Int) h5 (fun  (h13 : AH) => okA h13 a0 3 ∧ ∃ b17 : Nat, hfR h13 a0 2 = some b17 ∧ w_J7_fill_53178 zz b17 (4 : Int) h13 (fun  (h21 : AH) => okA h21 a0 3 ∧ ∃ b25 : Nat, hfR h21 a0 3 = some b25 ∧ w_J7_fill_53178 zz b25 (5 : Int) h21 (fun  (h29 : AH) => okA h29 a0 3 ∧ ∃ b33 : Nat, hfR h29 a0 4 = some b33 ∧ w_J7_fill_53178 zz b33 (0 : Int) h29 (fun  (h37 : AH) => okA h37 a0 3 ∧ ∃ b41 : Nat, hfR h37 a0 4 = some b41 ∧ okA h37 a0 3 ∧ ∃ b46 : Nat, hfR h37 a0 5 = some b46 ∧ okA h37 b46 4 ∧ w_X4_text zz b46 (0 : Int) h37 (fun (r50 : Nat) (h50 : AH) => okA h50 r50 5 ∧ okW h50 b41 (4 : Int) ∧ ∀ h56 : AH, h56 = saI h50 b41 (u1 (haI h50 b41) (4 : Int) (hfI h50 r50 2)) → okA h56 a0 3 ∧ ∃ b58 : Nat, hfR h56 a0 4 = some b58 ∧ okA h56 a0 3 ∧ ∃ b63 : Nat, hfR h56 a0 5 = some b63 ∧ okA h56 b63 4 ∧ w_X4_text zz b63 (1 : Int) h56 (fun (r67 : Nat) (h67 : AH) => okA h67 r67 5 ∧ okW h67 b58 (5 : Int) ∧ ∀ h73 : AH, h73 = saI h67 b58 (u1 (haI h67 b58) (5 : Int) (hfI h67 r67 2)) → Q h73)))))))
set_option maxRecDepth 100000 in
set_option maxHeartbeats 4000000 in
theorem met_X3_unpairAll (G : GG) (l : Launch) : ∀ (As : List Value) (a0 : Nat) (h : AH) (Q : AH → Prop), As.map ab = List.map some ([vR a0] : List AV) → w_X3_unpairAll G.2.2 a0 h Q → Met l yX3_unpairAll (.code yX3_unpairAll cX3_unpairAll 1 none :: xTb) ({ frames := 1, cells := 0, slots := 0, locals := 23 } : Room) (PcA G As h) (QG G (oV Q)) 0 0 (frA G) := by
  intro As a0 h Q hA hw
  refine met_of hA (by decide) (Nat.le_of_ble_eq_true rfl) (fun p e s m args below meth c C hml hr hnm => ?_)
  unfold w_X3_unpairAll at hw
  refine aw_aload_n (pc := 0) C dX3_unpairAll_0 rfl rfl ?_
  obtain ⟨hp9, b1, hb9, hw⟩ := hw
  refine aw_getR (pc := 1) C (ci := 3) (k := 0) ci3 (by decide) tw89 dX3_unpairAll_1 rfl hp9 hb9 ?_
  refine aw_iconst (pc := 4) C dX3_unpairAll_4 (i := (-1 : Int)) (by decide) ?_
  refine aw_callS (pc := 5) (as := [vR b1, vI (-1 : Int)]) C (fun As hA => met_J7_fill_53178 G l As b1 (-1 : Int) _ _ hA hw) tw331 tw38 tw4 tw39 ⟨rfl, rfl⟩ ⟨by decide, by decide, pd_J7_fill_53178⟩ ⟨Nat.le_of_ble_eq_true rfl, Nat.le_of_ble_eq_true rfl⟩ ⟨Nat.zero_le _, Nat.zero_le _⟩ (Nat.le_of_ble_eq_true rfl) dX3_unpairAll_5 rfl (fun v9 h5 hq9 => ?_)
  obtain ⟨rfl, hw⟩ := hq9
  refine aw_aload_n (pc := 8) C dX3_unpairAll_8 rfl rfl ?_
  obtain ⟨hp9, b9, hb9, hw⟩ := hw
  refine aw_getR (pc := 9) C (ci := 3) (k := 1) ci3 (by decide) tw92 dX3_unpairAll_9 rfl hp9 hb9 ?_
  refine aw_iconst (pc := 12) C dX3_unpairAll_12 (i := (-1 : Int)) (by decide) ?_
  refine aw_callS (pc := 13) (as := [vR b9, vI (-1 : Int)]) C (fun As hA => met_J7_fill_53178 G l As b9 (-1 : Int) _ _ hA hw) tw331 tw38 tw4 tw39 ⟨rfl, rfl⟩ ⟨by decide, by decide, pd_J7_fill_53178⟩ ⟨Nat.le_of_ble_eq_true rfl, Nat.le_of_ble_eq_true rfl⟩ ⟨Nat.zero_le _, Nat.zero_le _⟩ (Nat.le_of_ble_eq_true rfl) dX3_unpairAll_13 rfl (fun v9 h13 hq9 => ?_)
  obtain ⟨rfl, hw⟩ := hq9
  refine aw_aload_n (pc := 16) C dX3_unpairAll_16 rfl rfl ?_
  obtain ⟨hp9, b17, hb9, hw⟩ := hw
  refine aw_getR (pc := 17) C (ci := 3) (k := 2) ci3 (by decide) tw94 dX3_unpairAll_17 rfl hp9 hb9 ?_
  refine aw_iconst (pc := 20) C dX3_unpairAll_20 (i := (4 : Int)) (by decide) ?_
  refine aw_callS (pc := 21) (as := [vR b17, vI (4 : Int)]) C (fun As hA => met_J7_fill_53178 G l As b17 (4 : Int) _ _ hA hw) tw331 tw38 tw4 tw39 ⟨rfl, rfl⟩ ⟨by decide, by decide, pd_J7_fill_53178⟩ ⟨Nat.le_of_ble_eq_true rfl, Nat.le_of_ble_eq_true rfl⟩ ⟨Nat.zero_le _, Nat.zero_le _⟩ (Nat.le_of_ble_eq_true rfl) dX3_unpairAll_21 rfl (fun v9 h21 hq9 => ?_)
  obtain ⟨rfl, hw⟩ := hq9
  refine aw_aload_n (pc := 24) C dX3_unpairAll_24 rfl rfl ?_
  obtain ⟨hp9, b25, hb9, hw⟩ := hw
  refine aw_getR (pc := 25) C (ci := 3) (k := 3) ci3 (by decide) tw96 dX3_unpairAll_25 rfl hp9 hb9 ?_
  refine aw_iconst (pc := 28) C dX3_unpairAll_28 (i := (5 : Int)) (by decide) ?_
  refine aw_callS (pc := 29) (as := [vR b25, vI (5 : Int)]) C (fun As hA => met_J7_fill_53178 G l As b25 (5 : Int) _ _ hA hw) tw331 tw38 tw4 tw39 ⟨rfl, rfl⟩ ⟨by decide, by decide, pd_J7_fill_53178⟩ ⟨Nat.le_of_ble_eq_true rfl, Nat.le_of_ble_eq_true rfl⟩ ⟨Nat.zero_le _, Nat.zero_le _⟩ (Nat.le_of_ble_eq_true rfl) dX3_unpairAll_29 rfl (fun v9 h29 hq9 => ?_)
  obtain ⟨rfl, hw⟩ := hq9
  refine aw_aload_n (pc := 32) C dX3_unpairAll_32 rfl rfl ?_
  obtain ⟨hp9, b33, hb9, hw⟩ := hw
  refine aw_getR (pc := 33) C (ci := 3) (k := 4) ci3 (by decide) tw98 dX3_unpairAll_33 rfl hp9 hb9 ?_
  refine aw_iconst (pc := 36) C dX3_unpairAll_36 (i := (0 : Int)) (by decide) ?_
  refine aw_callS (pc := 37) (as := [vR b33, vI (0 : Int)]) C (fun As hA => met_J7_fill_53178 G l As b33 (0 : Int) _ _ hA hw) tw331 tw38 tw4 tw39 ⟨rfl, rfl⟩ ⟨by decide, by decide, pd_J7_fill_53178⟩ ⟨Nat.le_of_ble_eq_true rfl, Nat.le_of_ble_eq_true rfl⟩ ⟨Nat.zero_le _, Nat.zero_le _⟩ (Nat.le_of_ble_eq_true rfl) dX3_unpairAll_37 rfl (fun v9 h37 hq9 => ?_)
  obtain ⟨rfl, hw⟩ := hq9
  refine aw_aload_n (pc := 40) C dX3_unpairAll_40 rfl rfl ?_
  obtain ⟨hp9, b41, hb9, hw⟩ := hw
  refine aw_getR (pc := 41) C (ci := 3) (k := 4) ci3 (by decide) tw98 dX3_unpairAll_41 rfl hp9 hb9 ?_
  refine aw_iconst (pc := 44) C dX3_unpairAll_44 (i := (4 : Int)) (by decide) ?_
  refine aw_aload_n (pc := 45) C dX3_unpairAll_45 rfl rfl ?_
  obtain ⟨hp9, b46, hb9, hw⟩ := hw
  refine aw_getR (pc := 46) C (ci := 3) (k := 5) ci3 (by decide) tw102 dX3_unpairAll_46 rfl hp9 hb9 ?_
  refine aw_iconst (pc := 49) C dX3_unpairAll_49 (i := (0 : Int)) (by decide) ?_
  obtain ⟨hp9, hw⟩ := hw
  refine aw_callV (pc := 50) (as := [vI (0 : Int)]) C ci4 (fun As hA => met_X4_text G l As b46 (0 : Int) _ _ hA hw) tw332 tw333 tw334 tw2 tw335 ⟨rfl, rfl⟩ ⟨rfl, by decide, by decide, pd_X4_text⟩ ⟨Nat.le_of_ble_eq_true rfl, Nat.le_of_ble_eq_true rfl⟩ ⟨Nat.zero_le _, Nat.zero_le _⟩ (Nat.le_of_ble_eq_true rfl) dX3_unpairAll_50 rfl hp9 (fun v9 h50 hq9 => ?_)
  obtain ⟨r50, rfl, hw⟩ := hq9
  obtain ⟨hp9, hw⟩ := hw
  refine aw_getI (pc := 53) C (ci := 5) (k := 2) ci5 (by decide) tw48 dX3_unpairAll_53 rfl hp9 ?_
  obtain ⟨⟨k9, hp9⟩, hw⟩ := hw
  refine aw_iast (pc := 56) C dX3_unpairAll_56 hp9 (aw_nmH (fun h56 e9 => ?_))
  have hw := hw h56 e9
  refine aw_aload_n (pc := 57) C dX3_unpairAll_57 rfl rfl ?_
  obtain ⟨hp9, b58, hb9, hw⟩ := hw
  refine aw_getR (pc := 58) C (ci := 3) (k := 4) ci3 (by decide) tw98 dX3_unpairAll_58 rfl hp9 hb9 ?_
  refine aw_iconst (pc := 61) C dX3_unpairAll_61 (i := (5 : Int)) (by decide) ?_
  refine aw_aload_n (pc := 62) C dX3_unpairAll_62 rfl rfl ?_
  obtain ⟨hp9, b63, hb9, hw⟩ := hw
  refine aw_getR (pc := 63) C (ci := 3) (k := 5) ci3 (by decide) tw102 dX3_unpairAll_63 rfl hp9 hb9 ?_
  refine aw_iconst (pc := 66) C dX3_unpairAll_66 (i := (1 : Int)) (by decide) ?_
  obtain ⟨hp9, hw⟩ := hw
  refine aw_callV (pc := 67) (as := [vI (1 : Int)]) C ci4 (fun As hA => met_X4_text G l As b63 (1 : Int) _ _ hA hw) tw332 tw333 tw334 tw2 tw335 ⟨rfl, rfl⟩ ⟨rfl, by decide, by decide, pd_X4_text⟩ ⟨Nat.le_of_ble_eq_true rfl, Nat.le_of_ble_eq_true rfl⟩ ⟨Nat.zero_le _, Nat.zero_le _⟩ (Nat.le_of_ble_eq_true rfl) dX3_unpairAll_67 rfl hp9 (fun v9 h67 hq9 => ?_)
  obtain ⟨r67, rfl, hw⟩ := hq9
  obtain ⟨hp9, hw⟩ := hw
  refine aw_getI (pc := 70) C (ci := 5) (k := 2) ci5 (by decide) tw48 dX3_unpairAll_70 rfl hp9 ?_
  obtain ⟨⟨k9, hp9⟩, hw⟩ := hw
  refine aw_iast (pc := 73) C dX3_unpairAll_73 hp9 (aw_nmH (fun h73 e9 => ?_))
  have hw := hw h73 e9
  exact aw_vret (pc := 74) C hr dX3_unpairAll_74 ⟨Nat.le_of_ble_eq_true rfl, Nat.le_of_ble_eq_true rfl⟩ ⟨rfl, hw⟩
theorem dX3_measureLongest_0 : decode cX3_measureLongest 0 = .ok (.aload_n 0, 1) := by decide +kernel
theorem dX3_measureLongest_1 : decode cX3_measureLongest 1 = .ok (.getfield 30, 3) := by decide +kernel
theorem dX3_measureLongest_4 : decode cX3_measureLongest 4 = .ok (.iconst 0, 1) := by decide +kernel
theorem dX3_measureLongest_5 : decode cX3_measureLongest 5 = .ok (.invokevirtual 49, 3) := by decide +kernel
theorem dX3_measureLongest_8 : decode cX3_measureLongest 8 = .ok (.astore_n 1, 1) := by decide +kernel
theorem dX3_measureLongest_9 : decode cX3_measureLongest 9 = .ok (.aload_n 0, 1) := by decide +kernel
theorem dX3_measureLongest_10 : decode cX3_measureLongest 10 = .ok (.getfield 30, 3) := by decide +kernel
theorem dX3_measureLongest_13 : decode cX3_measureLongest 13 = .ok (.iconst 1, 1) := by decide +kernel
theorem dX3_measureLongest_14 : decode cX3_measureLongest 14 = .ok (.invokevirtual 49, 3) := by decide +kernel
theorem dX3_measureLongest_17 : decode cX3_measureLongest 17 = .ok (.astore_n 2, 1) := by decide +kernel
theorem dX3_measureLongest_18 : decode cX3_measureLongest 18 = .ok (.aload_n 0, 1) := by decide +kernel
theorem dX3_measureLongest_19 : decode cX3_measureLongest 19 = .ok (.getfield 27, 3) := by decide +kernel
theorem dX3_measureLongest_22 : decode cX3_measureLongest 22 = .ok (.iconst 0, 1) := by decide +kernel
theorem dX3_measureLongest_23 : decode cX3_measureLongest 23 = .ok (.invokestatic 67, 3) := by decide +kernel
theorem dX3_measureLongest_26 : decode cX3_measureLongest 26 = .ok (.aload_n 1, 1) := by decide +kernel
theorem dX3_measureLongest_27 : decode cX3_measureLongest 27 = .ok (.getfield 73, 3) := by decide +kernel
theorem dX3_measureLongest_30 : decode cX3_measureLongest 30 = .ok (.iconst 1, 1) := by decide +kernel
theorem dX3_measureLongest_31 : decode cX3_measureLongest 31 = .ok (.isub, 1) := by decide +kernel
theorem dX3_measureLongest_32 : decode cX3_measureLongest 32 = .ok (.istore_n 3, 1) := by decide +kernel
theorem dX3_measureLongest_33 : decode cX3_measureLongest 33 = .ok (.iload_n 3, 1) := by decide +kernel
theorem dX3_measureLongest_34 : decode cX3_measureLongest 34 = .ok (.ifCond .lt 97, 3) := by decide +kernel
theorem dX3_measureLongest_37 : decode cX3_measureLongest 37 = .ok (.aload_n 2, 1) := by decide +kernel
theorem dX3_measureLongest_38 : decode cX3_measureLongest 38 = .ok (.getfield 73, 3) := by decide +kernel
theorem dX3_measureLongest_41 : decode cX3_measureLongest 41 = .ok (.iconst 1, 1) := by decide +kernel
theorem dX3_measureLongest_42 : decode cX3_measureLongest 42 = .ok (.isub, 1) := by decide +kernel
theorem dX3_measureLongest_43 : decode cX3_measureLongest 43 = .ok (.istore 4, 2) := by decide +kernel
theorem dX3_measureLongest_45 : decode cX3_measureLongest 45 = .ok (.iload 4, 2) := by decide +kernel
theorem dX3_measureLongest_47 : decode cX3_measureLongest 47 = .ok (.ifCond .lt 78, 3) := by decide +kernel
theorem dX3_measureLongest_50 : decode cX3_measureLongest 50 = .ok (.iload_n 3, 1) := by decide +kernel
theorem dX3_measureLongest_51 : decode cX3_measureLongest 51 = .ok (.bipush 41, 2) := by decide +kernel
theorem dX3_measureLongest_53 : decode cX3_measureLongest 53 = .ok (.imul, 1) := by decide +kernel
theorem dX3_measureLongest_54 : decode cX3_measureLongest 54 = .ok (.iload 4, 2) := by decide +kernel
theorem dX3_measureLongest_56 : decode cX3_measureLongest 56 = .ok (.iadd, 1) := by decide +kernel
theorem dX3_measureLongest_57 : decode cX3_measureLongest 57 = .ok (.istore 5, 2) := by decide +kernel
theorem dX3_measureLongest_59 : decode cX3_measureLongest 59 = .ok (.aload_n 0, 1) := by decide +kernel
theorem dX3_measureLongest_60 : decode cX3_measureLongest 60 = .ok (.getfield 27, 3) := by decide +kernel
theorem dX3_measureLongest_63 : decode cX3_measureLongest 63 = .ok (.iload 5, 2) := by decide +kernel
theorem dX3_measureLongest_65 : decode cX3_measureLongest 65 = .ok (.aload_n 1, 1) := by decide +kernel
theorem dX3_measureLongest_66 : decode cX3_measureLongest 66 = .ok (.iload_n 3, 1) := by decide +kernel
theorem dX3_measureLongest_67 : decode cX3_measureLongest 67 = .ok (.invokevirtual 88, 3) := by decide +kernel
theorem dX3_measureLongest_70 : decode cX3_measureLongest 70 = .ok (.aload_n 2, 1) := by decide +kernel
theorem dX3_measureLongest_71 : decode cX3_measureLongest 71 = .ok (.iload 4, 2) := by decide +kernel
theorem dX3_measureLongest_73 : decode cX3_measureLongest 73 = .ok (.invokevirtual 88, 3) := by decide +kernel
theorem dX3_measureLongest_76 : decode cX3_measureLongest 76 = .ok (.if_icmp .ne 20, 3) := by decide +kernel
theorem dX3_measureLongest_79 : decode cX3_measureLongest 79 = .ok (.aload_n 0, 1) := by decide +kernel
theorem dX3_measureLongest_80 : decode cX3_measureLongest 80 = .ok (.getfield 27, 3) := by decide +kernel
theorem dX3_measureLongest_83 : decode cX3_measureLongest 83 = .ok (.iload 5, 2) := by decide +kernel
theorem dX3_measureLongest_85 : decode cX3_measureLongest 85 = .ok (.bipush 41, 2) := by decide +kernel
theorem dX3_measureLongest_87 : decode cX3_measureLongest 87 = .ok (.iadd, 1) := by decide +kernel
theorem dX3_measureLongest_88 : decode cX3_measureLongest 88 = .ok (.iconst 1, 1) := by decide +kernel
theorem dX3_measureLongest_89 : decode cX3_measureLongest 89 = .ok (.iadd, 1) := by decide +kernel
theorem dX3_measureLongest_90 : decode cX3_measureLongest 90 = .ok (.iaload, 1) := by decide +kernel
theorem dX3_measureLongest_91 : decode cX3_measureLongest 91 = .ok (.iconst 1, 1) := by decide +kernel
theorem dX3_measureLongest_92 : decode cX3_measureLongest 92 = .ok (.iadd, 1) := by decide +kernel
theorem dX3_measureLongest_93 : decode cX3_measureLongest 93 = .ok (.goto 25, 3) := by decide +kernel
theorem dX3_measureLongest_96 : decode cX3_measureLongest 96 = .ok (.aload_n 0, 1) := by decide +kernel
theorem dX3_measureLongest_97 : decode cX3_measureLongest 97 = .ok (.getfield 27, 3) := by decide +kernel
theorem dX3_measureLongest_100 : decode cX3_measureLongest 100 = .ok (.iload 5, 2) := by decide +kernel
theorem dX3_measureLongest_102 : decode cX3_measureLongest 102 = .ok (.bipush 41, 2) := by decide +kernel
theorem dX3_measureLongest_104 : decode cX3_measureLongest 104 = .ok (.iadd, 1) := by decide +kernel
theorem dX3_measureLongest_105 : decode cX3_measureLongest 105 = .ok (.iaload, 1) := by decide +kernel
theorem dX3_measureLongest_106 : decode cX3_measureLongest 106 = .ok (.aload_n 0, 1) := by decide +kernel
theorem dX3_measureLongest_107 : decode cX3_measureLongest 107 = .ok (.getfield 27, 3) := by decide +kernel
theorem dX3_measureLongest_110 : decode cX3_measureLongest 110 = .ok (.iload 5, 2) := by decide +kernel
theorem dX3_measureLongest_112 : decode cX3_measureLongest 112 = .ok (.iconst 1, 1) := by decide +kernel
theorem dX3_measureLongest_113 : decode cX3_measureLongest 113 = .ok (.iadd, 1) := by decide +kernel
theorem dX3_measureLongest_114 : decode cX3_measureLongest 114 = .ok (.iaload, 1) := by decide +kernel
theorem dX3_measureLongest_115 : decode cX3_measureLongest 115 = .ok (.invokestatic 91, 3) := by decide +kernel
theorem dX3_measureLongest_118 : decode cX3_measureLongest 118 = .ok (.iastore, 1) := by decide +kernel
theorem dX3_measureLongest_119 : decode cX3_measureLongest 119 = .ok (.iinc 4 (-1), 3) := by decide +kernel
theorem dX3_measureLongest_122 : decode cX3_measureLongest 122 = .ok (.goto (-77), 3) := by decide +kernel
theorem dX3_measureLongest_125 : decode cX3_measureLongest 125 = .ok (.iinc 3 (-1), 3) := by decide +kernel
theorem dX3_measureLongest_128 : decode cX3_measureLongest 128 = .ok (.goto (-95), 3) := by decide +kernel
theorem dX3_measureLongest_131 : decode cX3_measureLongest 131 = .ok (.return_, 1) := by decide +kernel
theorem pd_X3_measureLongest : (parseMethodDescriptor yX3_measureLongest.desc).map (fun d => d.parameters.length) = some 0 := by decide +kernel
def w_X3_measureLongest (zz : Nat → Nat) (a0 : Nat) (h : AH) (Q : AH → Prop) : Prop := okA h a0 3 ∧ ∃ b1 : Nat, hfR h a0 5 = some b1 ∧ okA h b1 4 ∧ w_X4_text zz b1 (0 : Int) h (fun (r5 : Nat) (h5 : AH) => okA h5 a0 3 ∧ ∃ b10 : Nat, hfR h5 a0 5 = some b10 ∧ okA h5 b10 4 ∧ w_X4_text zz b10 (1 : Int) h5 (fun (r14 : Nat) (h14 : AH) => okA h14 a0 3 ∧ ∃ b19 : Nat, hfR h14 a0 6 = some b19 ∧ w_J7_fill_53178 zz b19 (0 : Int) h14 (fun  (h23 : AH) => okA h23 r5 5 ∧ inR ((hfI h23 r5 2) - (1 : Int)) ∧ ∀ x3_32 : Int, x3_32 = ((hfI h23 r5 2) - (1 : Int)) → ∃ I_33 : Nat → Int → AH → Prop, (∃ n, I_33 n x3_32 h23) ∧ ∀ (n_33 : Nat) (x3_33 : Int) (h_33 : AH), I_33 n_33 x3_33 h_33 → (((x3_33 < 0) → Q h_33) ∧ ((¬ (x3_33 < 0)) → okA h_33 r14 5 ∧ inR ((hfI h_33 r14 2) - (1 : Int)) ∧ ∀ x4_43 : Int, x4_43 = ((hfI h_33 r14 2) - (1 : Int)) → ∃ I_45 : Nat → Int → AH → Prop, (∃ n, I_45 n x4_43 h_33) ∧ ∀ (n_45 : Nat) (x4_45 : Int) (h_45 : AH), I_45 n_45 x4_45 h_45 → (((x4_45 < 0) → inR (x3_33 + (-1)) ∧ ∀ x3_125 : Int, x3_125 = (x3_33 + (-1)) → ∃ m, m < n_33 ∧ I_33 m x3_125 h_45) ∧ ((¬ (x4_45 < 0)) → inR (x3_33 * (41 : Int)) ∧ inR ((x3_33 * (41 : Int)) + x4_45) ∧ ∀ x5_57 : Int, x5_57 = ((x3_33 * (41 : Int)) + x4_45) → okA h_45 a0 3 ∧ ∃ b60 : Nat, hfR h_45 a0 6 = some b60 ∧ okA h_45 r5 5 ∧ w_X5_codeOf zz r5 x3_33 h_45 (fun (r67 : Int) (h67 : AH) => okA h67 r14 5 ∧ w_X5_codeOf zz r14 x4_45 h67 (fun (r73 : Int) (h73 : AH) => jn (fun (t2_118 : Int) (h_118 : AH) => okW h_118 b60 x5_57 ∧ ∀ h118 : AH, h118 = saI h_118 b60 (u1 (haI h_118 b60) x5_57 t2_118) → inR (x4_45 + (-1)) ∧ ∀ x4_119 : Int, x4_119 = (x4_45 + (-1)) → ∃ m, m < n_45 ∧ I_45 m x4_119 h118) (fun k_118 : Int → AH → Prop => ((¬ r67 = r73) → okA h73 a0 3 ∧ ∃ b97 : Nat, hfR h73 a0 6 = some b97 ∧ inR (x5_57 + (41 : Int)) ∧ okI h73 b97 (x5_57 + (41 : Int)) ∧ okA h73 a0 3 ∧ ∃ b107 : Nat, hfR h73 a0 6 = some b107 ∧ inR (x5_57 + (1 : Int)) ∧ okI h73 b107 (x5_57 + (1 : Int)) ∧ k_118 (if (haI h73 b97 (x5_57 + (41 : Int))) < (haI h73 b107 (x5_57 + (1 : Int))) then (haI h73 b107 (x5_57 + (1 : Int))) else (haI h73 b97 (x5_57 + (41 : Int)))) h73) ∧ ((r67 = r73) → okA h73 a0 3 ∧ ∃ b80 : Nat, hfR h73 a0 6 = some b80 ∧ inR (x5_57 + (41 : Int)) ∧ inR ((x5_57 + (41 : Int)) + (1 : Int)) ∧ okI h73 b80 ((x5_57 + (41 : Int)) + (1 : Int)) ∧ inR ((haI h73 b80 ((x5_57 + (41 : Int)) + (1 : Int))) + (1 : Int)) ∧ k_118 ((haI h73 b80 ((x5_57 + (41 : Int)) + (1 : Int))) + (1 : Int)) h73)))))))))))
set_option maxRecDepth 100000 in
set_option maxHeartbeats 4000000 in
theorem met_X3_measureLongest (G : GG) (l : Launch) : ∀ (As : List Value) (a0 : Nat) (h : AH) (Q : AH → Prop), As.map ab = List.map some ([vR a0] : List AV) → w_X3_measureLongest G.2.2 a0 h Q → Met l yX3_measureLongest (.code yX3_measureLongest cX3_measureLongest 6 none :: xTb) ({ frames := 1, cells := 0, slots := 0, locals := 23 } : Room) (PcA G As h) (QG G (oV Q)) 0 0 (frA G) := by
  intro As a0 h Q hA hw
  refine met_of hA (by decide) (Nat.le_of_ble_eq_true rfl) (fun p e s m args below meth c C hml hr hnm => ?_)
  unfold w_X3_measureLongest at hw
  refine aw_aload_n (pc := 0) C dX3_measureLongest_0 rfl rfl ?_
  obtain ⟨hp9, b1, hb9, hw⟩ := hw
  refine aw_getR (pc := 1) C (ci := 3) (k := 5) ci3 (by decide) tw102 dX3_measureLongest_1 rfl hp9 hb9 ?_
  refine aw_iconst (pc := 4) C dX3_measureLongest_4 (i := (0 : Int)) (by decide) ?_
  obtain ⟨hp9, hw⟩ := hw
  refine aw_callV (pc := 5) (as := [vI (0 : Int)]) C ci4 (fun As hA => met_X4_text G l As b1 (0 : Int) _ _ hA hw) tw332 tw333 tw334 tw2 tw335 ⟨rfl, rfl⟩ ⟨rfl, by decide, by decide, pd_X4_text⟩ ⟨Nat.le_of_ble_eq_true rfl, Nat.le_of_ble_eq_true rfl⟩ ⟨Nat.zero_le _, Nat.zero_le _⟩ (Nat.le_of_ble_eq_true rfl) dX3_measureLongest_5 rfl hp9 (fun v9 h5 hq9 => ?_)
  obtain ⟨r5, rfl, hw⟩ := hq9
  refine aw_astore_n (pc := 8) C dX3_measureLongest_8 rfl (by rw [hml]; decide) ?_
  refine aw_aload_n (pc := 9) C dX3_measureLongest_9 rfl rfl ?_
  obtain ⟨hp9, b10, hb9, hw⟩ := hw
  refine aw_getR (pc := 10) C (ci := 3) (k := 5) ci3 (by decide) tw102 dX3_measureLongest_10 rfl hp9 hb9 ?_
  refine aw_iconst (pc := 13) C dX3_measureLongest_13 (i := (1 : Int)) (by decide) ?_
  obtain ⟨hp9, hw⟩ := hw
  refine aw_callV (pc := 14) (as := [vI (1 : Int)]) C ci4 (fun As hA => met_X4_text G l As b10 (1 : Int) _ _ hA hw) tw332 tw333 tw334 tw2 tw335 ⟨rfl, rfl⟩ ⟨rfl, by decide, by decide, pd_X4_text⟩ ⟨Nat.le_of_ble_eq_true rfl, Nat.le_of_ble_eq_true rfl⟩ ⟨Nat.zero_le _, Nat.zero_le _⟩ (Nat.le_of_ble_eq_true rfl) dX3_measureLongest_14 rfl hp9 (fun v9 h14 hq9 => ?_)
  obtain ⟨r14, rfl, hw⟩ := hq9
  refine aw_astore_n (pc := 17) C dX3_measureLongest_17 rfl (by rw [hml]; decide) ?_
  refine aw_aload_n (pc := 18) C dX3_measureLongest_18 rfl rfl ?_
  obtain ⟨hp9, b19, hb9, hw⟩ := hw
  refine aw_getR (pc := 19) C (ci := 3) (k := 6) ci3 (by decide) tw103 dX3_measureLongest_19 rfl hp9 hb9 ?_
  refine aw_iconst (pc := 22) C dX3_measureLongest_22 (i := (0 : Int)) (by decide) ?_
  refine aw_callS (pc := 23) (as := [vR b19, vI (0 : Int)]) C (fun As hA => met_J7_fill_53178 G l As b19 (0 : Int) _ _ hA hw) tw331 tw38 tw4 tw39 ⟨rfl, rfl⟩ ⟨by decide, by decide, pd_J7_fill_53178⟩ ⟨Nat.le_of_ble_eq_true rfl, Nat.le_of_ble_eq_true rfl⟩ ⟨Nat.zero_le _, Nat.zero_le _⟩ (Nat.le_of_ble_eq_true rfl) dX3_measureLongest_23 rfl (fun v9 h23 hq9 => ?_)
  obtain ⟨rfl, hw⟩ := hq9
  refine aw_aload_n (pc := 26) C dX3_measureLongest_26 rfl rfl ?_
  obtain ⟨hp9, hw⟩ := hw
  refine aw_getI (pc := 27) C (ci := 5) (k := 2) ci5 (by decide) tw48 dX3_measureLongest_27 rfl hp9 ?_
  refine aw_iconst (pc := 30) C dX3_measureLongest_30 (i := (1 : Int)) (by decide) ?_
  obtain ⟨hp9, hw⟩ := hw
  refine aw_isub (pc := 31) C dX3_measureLongest_31 hp9 ?_
  refine aw_nmI (fun x3_32 e9 => ?_)
  have hw := hw x3_32 e9
  refine aw_istore_n (pc := 32) C dX3_measureLongest_32 rfl (by rw [hml]; decide) ?_
  obtain ⟨I_33, ⟨n9, hi9⟩, hst9⟩ := hw
  have L_33 : ∀ (n_33 : Nat) (x3_33 : Int) (h_33 : AH), I_33 n_33 x3_33 h_33 → AW G p l e ({ frames := 1, cells := 0, slots := 0, locals := 23 } : Room) s m args below meth c 0 0 (MQ below (QG G (oV Q)) args s 0 0 (frA G)) 33 (eOf [(0, vR a0), (1, vR r5), (2, vR r14), (3, vI x3_33)]) [] h_33 := by
    intro n_33
    induction n_33 using Nat.strongRecOn with
    | _ n_33 ih_33 =>
    intro x3_33 h_33 hi9
    have hw := hst9 n_33 x3_33 h_33 hi9
    refine aw_iload_n (pc := 33) C dX3_measureLongest_33 rfl rfl ?_
    refine aw_if_lt (pc := 34) (tgt := 131) C dX3_measureLongest_34 (by decide) (fun hc9 => ?_) (fun hc9 => ?_)
    · have hw := hw.1 hc9
      exact aw_vret (pc := 131) C hr dX3_measureLongest_131 ⟨Nat.le_of_ble_eq_true rfl, Nat.le_of_ble_eq_true rfl⟩ ⟨rfl, hw⟩
    · have hw := hw.2 hc9
      refine aw_aload_n (pc := 37) C dX3_measureLongest_37 rfl rfl ?_
      obtain ⟨hp9, hw⟩ := hw
      refine aw_getI (pc := 38) C (ci := 5) (k := 2) ci5 (by decide) tw48 dX3_measureLongest_38 rfl hp9 ?_
      refine aw_iconst (pc := 41) C dX3_measureLongest_41 (i := (1 : Int)) (by decide) ?_
      obtain ⟨hp9, hw⟩ := hw
      refine aw_isub (pc := 42) C dX3_measureLongest_42 hp9 ?_
      refine aw_nmI (fun x4_43 e9 => ?_)
      have hw := hw x4_43 e9
      refine aw_istore (pc := 43) C dX3_measureLongest_43 (by rw [hml]; decide) ?_
      obtain ⟨I_45, ⟨n9, hi9⟩, hst9⟩ := hw
      have L_45 : ∀ (n_45 : Nat) (x4_45 : Int) (h_45 : AH), I_45 n_45 x4_45 h_45 → AW G p l e ({ frames := 1, cells := 0, slots := 0, locals := 23 } : Room) s m args below meth c 0 0 (MQ below (QG G (oV Q)) args s 0 0 (frA G)) 45 (eOf [(0, vR a0), (1, vR r5), (2, vR r14), (3, vI x3_33), (4, vI x4_45)]) [] h_45 := by
        intro n_45
        induction n_45 using Nat.strongRecOn with
        | _ n_45 ih_45 =>
        intro x4_45 h_45 hi9
        have hw := hst9 n_45 x4_45 h_45 hi9
        refine aw_iload (pc := 45) C dX3_measureLongest_45 rfl ?_
        refine aw_if_lt (pc := 47) (tgt := 125) C dX3_measureLongest_47 (by decide) (fun hc9 => ?_) (fun hc9 => ?_)
        · have hw := hw.1 hc9
          obtain ⟨hp9, hw⟩ := hw
          refine aw_iincN (pc := 125) C dX3_measureLongest_125 (k := (-1)) (by decide) rfl (by rw [hml]; decide) hp9 (fun x3_125 e9 => ?_)
          have hw := hw x3_125 e9
          refine aw_goto (pc := 128) (tgt := 33) C dX3_measureLongest_128 (by decide) ?_
          obtain ⟨m9, hm9, hw⟩ := hw
          refine aw_sub [(0, vR a0), (1, vR r5), (2, vR r14), (3, vI x3_125)] ⟨rfl, rfl, rfl, rfl, trivial⟩ ?_
          exact ih_33 m9 hm9 _ _ hw
        · have hw := hw.2 hc9
          refine aw_iload_n (pc := 50) C dX3_measureLongest_50 rfl rfl ?_
          refine aw_bipush (pc := 51) C dX3_measureLongest_51 (i := (41 : Int)) (by decide) ?_
          obtain ⟨hp9, hw⟩ := hw
          refine aw_imul (pc := 53) C dX3_measureLongest_53 hp9 ?_
          refine aw_iload (pc := 54) C dX3_measureLongest_54 rfl ?_
          obtain ⟨hp9, hw⟩ := hw
          refine aw_iadd (pc := 56) C dX3_measureLongest_56 hp9 ?_
          refine aw_nmI (fun x5_57 e9 => ?_)
          have hw := hw x5_57 e9
          refine aw_istore (pc := 57) C dX3_measureLongest_57 (by rw [hml]; decide) ?_
          refine aw_aload_n (pc := 59) C dX3_measureLongest_59 rfl rfl ?_
          obtain ⟨hp9, b60, hb9, hw⟩ := hw
          refine aw_getR (pc := 60) C (ci := 3) (k := 6) ci3 (by decide) tw103 dX3_measureLongest_60 rfl hp9 hb9 ?_
          refine aw_iload (pc := 63) C dX3_measureLongest_63 rfl ?_
          refine aw_aload_n (pc := 65) C dX3_measureLongest_65 rfl rfl ?_
          refine aw_iload_n (pc := 66) C dX3_measureLongest_66 rfl rfl ?_
          obtain ⟨hp9, hw⟩ := hw
          refine aw_callV (pc := 67) (as := [vI x3_33]) C ci5 (fun As hA => met_X5_codeOf G l As r5 x3_33 _ _ hA hw) tw344 tw345 tw346 tw3 tw347 ⟨rfl, rfl⟩ ⟨rfl, by decide, by decide, pd_X5_codeOf⟩ ⟨Nat.le_of_ble_eq_true rfl, Nat.le_of_ble_eq_true rfl⟩ ⟨Nat.zero_le _, Nat.zero_le _⟩ (Nat.le_of_ble_eq_true rfl) dX3_measureLongest_67 rfl hp9 (fun v9 h67 hq9 => ?_)
          obtain ⟨r67, rfl, hw⟩ := hq9
          refine aw_aload_n (pc := 70) C dX3_measureLongest_70 rfl rfl ?_
          refine aw_iload (pc := 71) C dX3_measureLongest_71 rfl ?_
          obtain ⟨hp9, hw⟩ := hw
          refine aw_callV (pc := 73) (as := [vI x4_45]) C ci5 (fun As hA => met_X5_codeOf G l As r14 x4_45 _ _ hA hw) tw344 tw345 tw346 tw3 tw347 ⟨rfl, rfl⟩ ⟨rfl, by decide, by decide, pd_X5_codeOf⟩ ⟨Nat.le_of_ble_eq_true rfl, Nat.le_of_ble_eq_true rfl⟩ ⟨Nat.zero_le _, Nat.zero_le _⟩ (Nat.le_of_ble_eq_true rfl) dX3_measureLongest_73 rfl hp9 (fun v9 h73 hq9 => ?_)
          obtain ⟨r73, rfl, hw⟩ := hq9
          obtain ⟨k_118, hk_118, hw⟩ := jn_out hw
          have J_118 : ∀ (t2_118 : Int) (h_118 : AH), k_118 t2_118 h_118 → AW G p l e ({ frames := 1, cells := 0, slots := 0, locals := 23 } : Room) s m args below meth c 0 0 (MQ below (QG G (oV Q)) args s 0 0 (frA G)) 118 (eOf [(0, vR a0), (1, vR r5), (2, vR r14), (3, vI x3_33), (4, vI x4_45)]) [vI t2_118, vI x5_57, vR b60] h_118 := by
            intro t2_118 h_118 hw
            rw [hk_118] at hw
            obtain ⟨⟨k9, hp9⟩, hw⟩ := hw
            refine aw_iast (pc := 118) C dX3_measureLongest_118 hp9 (aw_nmH (fun h118 e9 => ?_))
            have hw := hw h118 e9
            obtain ⟨hp9, hw⟩ := hw
            refine aw_iincN (pc := 119) C dX3_measureLongest_119 (k := (-1)) (by decide) rfl (by rw [hml]; decide) hp9 (fun x4_119 e9 => ?_)
            have hw := hw x4_119 e9
            refine aw_goto (pc := 122) (tgt := 45) C dX3_measureLongest_122 (by decide) ?_
            obtain ⟨m9, hm9, hw⟩ := hw
            refine aw_sub [(0, vR a0), (1, vR r5), (2, vR r14), (3, vI x3_33), (4, vI x4_119)] ⟨rfl, rfl, rfl, rfl, rfl, trivial⟩ ?_
            exact ih_45 m9 hm9 _ _ hw
          refine aw_icmp_ne (pc := 76) (tgt := 96) C dX3_measureLongest_76 (by decide) (fun hc9 => ?_) (fun hc9 => ?_)
          · have hw := hw.1 hc9
            refine aw_aload_n (pc := 96) C dX3_measureLongest_96 rfl rfl ?_
            obtain ⟨hp9, b97, hb9, hw⟩ := hw
            refine aw_getR (pc := 97) C (ci := 3) (k := 6) ci3 (by decide) tw103 dX3_measureLongest_97 rfl hp9 hb9 ?_
            refine aw_iload (pc := 100) C dX3_measureLongest_100 rfl ?_
            refine aw_bipush (pc := 102) C dX3_measureLongest_102 (i := (41 : Int)) (by decide) ?_
            obtain ⟨hp9, hw⟩ := hw
            refine aw_iadd (pc := 104) C dX3_measureLongest_104 hp9 ?_
            obtain ⟨⟨k9, hp9⟩, hw⟩ := hw
            refine aw_iald (pc := 105) C dX3_measureLongest_105 hp9 ?_
            refine aw_aload_n (pc := 106) C dX3_measureLongest_106 rfl rfl ?_
            obtain ⟨hp9, b107, hb9, hw⟩ := hw
            refine aw_getR (pc := 107) C (ci := 3) (k := 6) ci3 (by decide) tw103 dX3_measureLongest_107 rfl hp9 hb9 ?_
            refine aw_iload (pc := 110) C dX3_measureLongest_110 rfl ?_
            refine aw_iconst (pc := 112) C dX3_measureLongest_112 (i := (1 : Int)) (by decide) ?_
            obtain ⟨hp9, hw⟩ := hw
            refine aw_iadd (pc := 113) C dX3_measureLongest_113 hp9 ?_
            obtain ⟨⟨k9, hp9⟩, hw⟩ := hw
            refine aw_iald (pc := 114) C dX3_measureLongest_114 hp9 ?_
            refine aw_mmax (pc := 115) C tw348 tw349 tw10 tw350 ⟨Nat.le_of_ble_eq_true rfl, Nat.le_of_ble_eq_true rfl, Nat.zero_le _, Nat.zero_le _⟩ (Nat.le_of_ble_eq_true rfl) dX3_measureLongest_115 ?_
            refine aw_sub [(0, vR a0), (1, vR r5), (2, vR r14), (3, vI x3_33), (4, vI x4_45)] ⟨rfl, rfl, rfl, rfl, rfl, trivial⟩ ?_
            exact J_118 _ _ hw
          · have hw := hw.2 hc9
            refine aw_aload_n (pc := 79) C dX3_measureLongest_79 rfl rfl ?_
            obtain ⟨hp9, b80, hb9, hw⟩ := hw
            refine aw_getR (pc := 80) C (ci := 3) (k := 6) ci3 (by decide) tw103 dX3_measureLongest_80 rfl hp9 hb9 ?_
            refine aw_iload (pc := 83) C dX3_measureLongest_83 rfl ?_
            refine aw_bipush (pc := 85) C dX3_measureLongest_85 (i := (41 : Int)) (by decide) ?_
            obtain ⟨hp9, hw⟩ := hw
            refine aw_iadd (pc := 87) C dX3_measureLongest_87 hp9 ?_
            refine aw_iconst (pc := 88) C dX3_measureLongest_88 (i := (1 : Int)) (by decide) ?_
            obtain ⟨hp9, hw⟩ := hw
            refine aw_iadd (pc := 89) C dX3_measureLongest_89 hp9 ?_
            obtain ⟨⟨k9, hp9⟩, hw⟩ := hw
            refine aw_iald (pc := 90) C dX3_measureLongest_90 hp9 ?_
            refine aw_iconst (pc := 91) C dX3_measureLongest_91 (i := (1 : Int)) (by decide) ?_
            obtain ⟨hp9, hw⟩ := hw
            refine aw_iadd (pc := 92) C dX3_measureLongest_92 hp9 ?_
            refine aw_goto (pc := 93) (tgt := 118) C dX3_measureLongest_93 (by decide) ?_
            refine aw_sub [(0, vR a0), (1, vR r5), (2, vR r14), (3, vI x3_33), (4, vI x4_45)] ⟨rfl, rfl, rfl, rfl, rfl, trivial⟩ ?_
            exact J_118 _ _ hw
      refine aw_sub [(0, vR a0), (1, vR r5), (2, vR r14), (3, vI x3_33), (4, vI x4_43)] ⟨rfl, rfl, rfl, rfl, rfl, trivial⟩ ?_
      exact L_45 n9 _ _ hi9
  refine aw_sub [(0, vR a0), (1, vR r5), (2, vR r14), (3, vI x3_32)] ⟨rfl, rfl, rfl, rfl, trivial⟩ ?_
  exact L_33 n9 _ _ hi9
theorem dX3_partnerThatLeaves_0 : decode cX3_partnerThatLeaves 0 = .ok (.aload_n 0, 1) := by decide +kernel
theorem dX3_partnerThatLeaves_1 : decode cX3_partnerThatLeaves 1 = .ok (.getfield 30, 3) := by decide +kernel
theorem dX3_partnerThatLeaves_4 : decode cX3_partnerThatLeaves 4 = .ok (.iconst 0, 1) := by decide +kernel
theorem dX3_partnerThatLeaves_5 : decode cX3_partnerThatLeaves 5 = .ok (.invokevirtual 49, 3) := by decide +kernel
theorem dX3_partnerThatLeaves_8 : decode cX3_partnerThatLeaves 8 = .ok (.iload_n 2, 1) := by decide +kernel
theorem dX3_partnerThatLeaves_9 : decode cX3_partnerThatLeaves 9 = .ok (.invokevirtual 88, 3) := by decide +kernel
theorem dX3_partnerThatLeaves_12 : decode cX3_partnerThatLeaves 12 = .ok (.istore 4, 2) := by decide +kernel
theorem dX3_partnerThatLeaves_14 : decode cX3_partnerThatLeaves 14 = .ok (.iload_n 3, 1) := by decide +kernel
theorem dX3_partnerThatLeaves_15 : decode cX3_partnerThatLeaves 15 = .ok (.istore 5, 2) := by decide +kernel
theorem dX3_partnerThatLeaves_17 : decode cX3_partnerThatLeaves 17 = .ok (.iload 5, 2) := by decide +kernel
theorem dX3_partnerThatLeaves_19 : decode cX3_partnerThatLeaves 19 = .ok (.aload_n 0, 1) := by decide +kernel
theorem dX3_partnerThatLeaves_20 : decode cX3_partnerThatLeaves 20 = .ok (.getfield 30, 3) := by decide +kernel
theorem dX3_partnerThatLeaves_23 : decode cX3_partnerThatLeaves 23 = .ok (.iconst 1, 1) := by decide +kernel
theorem dX3_partnerThatLeaves_24 : decode cX3_partnerThatLeaves 24 = .ok (.invokevirtual 49, 3) := by decide +kernel
theorem dX3_partnerThatLeaves_27 : decode cX3_partnerThatLeaves 27 = .ok (.getfield 73, 3) := by decide +kernel
theorem dX3_partnerThatLeaves_30 : decode cX3_partnerThatLeaves 30 = .ok (.if_icmp .ge 50, 3) := by decide +kernel
theorem dX3_partnerThatLeaves_33 : decode cX3_partnerThatLeaves 33 = .ok (.aload_n 0, 1) := by decide +kernel
theorem dX3_partnerThatLeaves_34 : decode cX3_partnerThatLeaves 34 = .ok (.getfield 30, 3) := by decide +kernel
theorem dX3_partnerThatLeaves_37 : decode cX3_partnerThatLeaves 37 = .ok (.iconst 1, 1) := by decide +kernel
theorem dX3_partnerThatLeaves_38 : decode cX3_partnerThatLeaves 38 = .ok (.invokevirtual 49, 3) := by decide +kernel
theorem dX3_partnerThatLeaves_41 : decode cX3_partnerThatLeaves 41 = .ok (.iload 5, 2) := by decide +kernel
theorem dX3_partnerThatLeaves_43 : decode cX3_partnerThatLeaves 43 = .ok (.invokevirtual 88, 3) := by decide +kernel
theorem dX3_partnerThatLeaves_46 : decode cX3_partnerThatLeaves 46 = .ok (.iload 4, 2) := by decide +kernel
theorem dX3_partnerThatLeaves_48 : decode cX3_partnerThatLeaves 48 = .ok (.if_icmp .ne 26, 3) := by decide +kernel
theorem dX3_partnerThatLeaves_51 : decode cX3_partnerThatLeaves 51 = .ok (.aload_n 0, 1) := by decide +kernel
theorem dX3_partnerThatLeaves_52 : decode cX3_partnerThatLeaves 52 = .ok (.getfield 27, 3) := by decide +kernel
theorem dX3_partnerThatLeaves_55 : decode cX3_partnerThatLeaves 55 = .ok (.iload_n 2, 1) := by decide +kernel
theorem dX3_partnerThatLeaves_56 : decode cX3_partnerThatLeaves 56 = .ok (.iconst 1, 1) := by decide +kernel
theorem dX3_partnerThatLeaves_57 : decode cX3_partnerThatLeaves 57 = .ok (.iadd, 1) := by decide +kernel
theorem dX3_partnerThatLeaves_58 : decode cX3_partnerThatLeaves 58 = .ok (.bipush 41, 2) := by decide +kernel
theorem dX3_partnerThatLeaves_60 : decode cX3_partnerThatLeaves 60 = .ok (.imul, 1) := by decide +kernel
theorem dX3_partnerThatLeaves_61 : decode cX3_partnerThatLeaves 61 = .ok (.iload 5, 2) := by decide +kernel
theorem dX3_partnerThatLeaves_63 : decode cX3_partnerThatLeaves 63 = .ok (.iadd, 1) := by decide +kernel
theorem dX3_partnerThatLeaves_64 : decode cX3_partnerThatLeaves 64 = .ok (.iconst 1, 1) := by decide +kernel
theorem dX3_partnerThatLeaves_65 : decode cX3_partnerThatLeaves 65 = .ok (.iadd, 1) := by decide +kernel
theorem dX3_partnerThatLeaves_66 : decode cX3_partnerThatLeaves 66 = .ok (.iaload, 1) := by decide +kernel
theorem dX3_partnerThatLeaves_67 : decode cX3_partnerThatLeaves 67 = .ok (.iload_n 1, 1) := by decide +kernel
theorem dX3_partnerThatLeaves_68 : decode cX3_partnerThatLeaves 68 = .ok (.if_icmp .ne 6, 3) := by decide +kernel
theorem dX3_partnerThatLeaves_71 : decode cX3_partnerThatLeaves 71 = .ok (.iload 5, 2) := by decide +kernel
theorem dX3_partnerThatLeaves_73 : decode cX3_partnerThatLeaves 73 = .ok (.ireturn, 1) := by decide +kernel
theorem dX3_partnerThatLeaves_74 : decode cX3_partnerThatLeaves 74 = .ok (.iinc 5 1, 3) := by decide +kernel
theorem dX3_partnerThatLeaves_77 : decode cX3_partnerThatLeaves 77 = .ok (.goto (-60), 3) := by decide +kernel
theorem dX3_partnerThatLeaves_80 : decode cX3_partnerThatLeaves 80 = .ok (.iconst (-1), 1) := by decide +kernel
theorem dX3_partnerThatLeaves_81 : decode cX3_partnerThatLeaves 81 = .ok (.ireturn, 1) := by decide +kernel
theorem pd_X3_partnerThatLeaves : (parseMethodDescriptor yX3_partnerThatLeaves.desc).map (fun d => d.parameters.length) = some 3 := by decide +kernel
def w_X3_partnerThatLeaves (zz : Nat → Nat) (a0 : Nat) (a1 : Int) (a2 : Int) (a3 : Int) (h : AH) (Q : Int → AH → Prop) : Prop := okA h a0 3 ∧ ∃ b1 : Nat, hfR h a0 5 = some b1 ∧ okA h b1 4 ∧ w_X4_text zz b1 (0 : Int) h (fun (r5 : Nat) (h5 : AH) => okA h5 r5 5 ∧ w_X5_codeOf zz r5 a2 h5 (fun (r9 : Int) (h9 : AH) => ∃ I_17 : Nat → Int → AH → Prop, (∃ n, I_17 n a3 h9) ∧ ∀ (n_17 : Nat) (x5_17 : Int) (h_17 : AH), I_17 n_17 x5_17 h_17 → (okA h_17 a0 3 ∧ ∃ b20 : Nat, hfR h_17 a0 5 = some b20 ∧ okA h_17 b20 4 ∧ w_X4_text zz b20 (1 : Int) h_17 (fun (r24 : Nat) (h24 : AH) => okA h24 r24 5 ∧ (((hfI h24 r24 2) ≤ x5_17) → Q (-1 : Int) h24) ∧ ((¬ ((hfI h24 r24 2) ≤ x5_17)) → okA h24 a0 3 ∧ ∃ b34 : Nat, hfR h24 a0 5 = some b34 ∧ okA h24 b34 4 ∧ w_X4_text zz b34 (1 : Int) h24 (fun (r38 : Nat) (h38 : AH) => okA h38 r38 5 ∧ w_X5_codeOf zz r38 x5_17 h38 (fun (r43 : Int) (h43 : AH) => jn (fun  (h_74 : AH) => inR (x5_17 + 1) ∧ ∀ x5_74 : Int, x5_74 = (x5_17 + 1) → ∃ m, m < n_17 ∧ I_17 m x5_74 h_74) (fun k_74 : AH → Prop => ((¬ r43 = r9) → k_74  h43) ∧ ((r43 = r9) → okA h43 a0 3 ∧ ∃ b52 : Nat, hfR h43 a0 6 = some b52 ∧ inR (a2 + (1 : Int)) ∧ inR ((a2 + (1 : Int)) * (41 : Int)) ∧ inR (((a2 + (1 : Int)) * (41 : Int)) + x5_17) ∧ inR ((((a2 + (1 : Int)) * (41 : Int)) + x5_17) + (1 : Int)) ∧ okI h43 b52 ((((a2 + (1 : Int)) * (41 : Int)) + x5_17) + (1 : Int)) ∧ ((¬ (haI h43 b52 ((((a2 + (1 : Int)) * (41 : Int)) + x5_17) + (1 : Int))) = a1) → k_74  h43) ∧ (((haI h43 b52 ((((a2 + (1 : Int)) * (41 : Int)) + x5_17) + (1 : Int))) = a1) → Q x5_17 h43))))))))))
set_option maxRecDepth 100000 in
set_option maxHeartbeats 4000000 in
theorem met_X3_partnerThatLeaves (G : GG) (l : Launch) : ∀ (As : List Value) (a0 : Nat) (a1 : Int) (a2 : Int) (a3 : Int) (h : AH) (Q : Int → AH → Prop), As.map ab = List.map some ([vR a0, vI a1, vI a2, vI a3] : List AV) → w_X3_partnerThatLeaves G.2.2 a0 a1 a2 a3 h Q → Met l yX3_partnerThatLeaves (.code yX3_partnerThatLeaves cX3_partnerThatLeaves 6 (some .int) :: xTb) ({ frames := 1, cells := 0, slots := 0, locals := 21 } : Room) (PcA G As h) (QG G (oI Q)) 0 0 (frA G) := by
  intro As a0 a1 a2 a3 h Q hA hw
  refine met_of hA (by decide) (Nat.le_of_ble_eq_true rfl) (fun p e s m args below meth c C hml hr hnm => ?_)
  unfold w_X3_partnerThatLeaves at hw
  refine aw_aload_n (pc := 0) C dX3_partnerThatLeaves_0 rfl rfl ?_
  obtain ⟨hp9, b1, hb9, hw⟩ := hw
  refine aw_getR (pc := 1) C (ci := 3) (k := 5) ci3 (by decide) tw102 dX3_partnerThatLeaves_1 rfl hp9 hb9 ?_
  refine aw_iconst (pc := 4) C dX3_partnerThatLeaves_4 (i := (0 : Int)) (by decide) ?_
  obtain ⟨hp9, hw⟩ := hw
  refine aw_callV (pc := 5) (as := [vI (0 : Int)]) C ci4 (fun As hA => met_X4_text G l As b1 (0 : Int) _ _ hA hw) tw332 tw333 tw334 tw2 tw335 ⟨rfl, rfl⟩ ⟨rfl, by decide, by decide, pd_X4_text⟩ ⟨Nat.le_of_ble_eq_true rfl, Nat.le_of_ble_eq_true rfl⟩ ⟨Nat.zero_le _, Nat.zero_le _⟩ (Nat.le_of_ble_eq_true rfl) dX3_partnerThatLeaves_5 rfl hp9 (fun v9 h5 hq9 => ?_)
  obtain ⟨r5, rfl, hw⟩ := hq9
  refine aw_iload_n (pc := 8) C dX3_partnerThatLeaves_8 rfl rfl ?_
  obtain ⟨hp9, hw⟩ := hw
  refine aw_callV (pc := 9) (as := [vI a2]) C ci5 (fun As hA => met_X5_codeOf G l As r5 a2 _ _ hA hw) tw344 tw345 tw346 tw3 tw347 ⟨rfl, rfl⟩ ⟨rfl, by decide, by decide, pd_X5_codeOf⟩ ⟨Nat.le_of_ble_eq_true rfl, Nat.le_of_ble_eq_true rfl⟩ ⟨Nat.zero_le _, Nat.zero_le _⟩ (Nat.le_of_ble_eq_true rfl) dX3_partnerThatLeaves_9 rfl hp9 (fun v9 h9 hq9 => ?_)
  obtain ⟨r9, rfl, hw⟩ := hq9
  refine aw_istore (pc := 12) C dX3_partnerThatLeaves_12 (by rw [hml]; decide) ?_
  refine aw_iload_n (pc := 14) C dX3_partnerThatLeaves_14 rfl rfl ?_
  refine aw_istore (pc := 15) C dX3_partnerThatLeaves_15 (by rw [hml]; decide) ?_
  obtain ⟨I_17, ⟨n9, hi9⟩, hst9⟩ := hw
  have L_17 : ∀ (n_17 : Nat) (x5_17 : Int) (h_17 : AH), I_17 n_17 x5_17 h_17 → AW G p l e ({ frames := 1, cells := 0, slots := 0, locals := 21 } : Room) s m args below meth c 0 0 (MQ below (QG G (oI Q)) args s 0 0 (frA G)) 17 (eOf [(0, vR a0), (1, vI a1), (2, vI a2), (4, vI r9), (5, vI x5_17)]) [] h_17 := by
    intro n_17
    induction n_17 using Nat.strongRecOn with
    | _ n_17 ih_17 =>
    intro x5_17 h_17 hi9
    have hw := hst9 n_17 x5_17 h_17 hi9
    refine aw_iload (pc := 17) C dX3_partnerThatLeaves_17 rfl ?_
    refine aw_aload_n (pc := 19) C dX3_partnerThatLeaves_19 rfl rfl ?_
    obtain ⟨hp9, b20, hb9, hw⟩ := hw
    refine aw_getR (pc := 20) C (ci := 3) (k := 5) ci3 (by decide) tw102 dX3_partnerThatLeaves_20 rfl hp9 hb9 ?_
    refine aw_iconst (pc := 23) C dX3_partnerThatLeaves_23 (i := (1 : Int)) (by decide) ?_
    obtain ⟨hp9, hw⟩ := hw
    refine aw_callV (pc := 24) (as := [vI (1 : Int)]) C ci4 (fun As hA => met_X4_text G l As b20 (1 : Int) _ _ hA hw) tw332 tw333 tw334 tw2 tw335 ⟨rfl, rfl⟩ ⟨rfl, by decide, by decide, pd_X4_text⟩ ⟨Nat.le_of_ble_eq_true rfl, Nat.le_of_ble_eq_true rfl⟩ ⟨Nat.zero_le _, Nat.zero_le _⟩ (Nat.le_of_ble_eq_true rfl) dX3_partnerThatLeaves_24 rfl hp9 (fun v9 h24 hq9 => ?_)
    obtain ⟨r24, rfl, hw⟩ := hq9
    obtain ⟨hp9, hw⟩ := hw
    refine aw_getI (pc := 27) C (ci := 5) (k := 2) ci5 (by decide) tw48 dX3_partnerThatLeaves_27 rfl hp9 ?_
    refine aw_icmp_ge (pc := 30) (tgt := 80) C dX3_partnerThatLeaves_30 (by decide) (fun hc9 => ?_) (fun hc9 => ?_)
    · have hw := hw.1 hc9
      refine aw_iconst (pc := 80) C dX3_partnerThatLeaves_80 (i := (-1 : Int)) (by decide) ?_
      exact aw_iret (pc := 81) C hr dX3_partnerThatLeaves_81 ⟨Nat.le_of_ble_eq_true rfl, Nat.le_of_ble_eq_true rfl⟩ ⟨_, rfl, hw⟩
    · have hw := hw.2 hc9
      refine aw_aload_n (pc := 33) C dX3_partnerThatLeaves_33 rfl rfl ?_
      obtain ⟨hp9, b34, hb9, hw⟩ := hw
      refine aw_getR (pc := 34) C (ci := 3) (k := 5) ci3 (by decide) tw102 dX3_partnerThatLeaves_34 rfl hp9 hb9 ?_
      refine aw_iconst (pc := 37) C dX3_partnerThatLeaves_37 (i := (1 : Int)) (by decide) ?_
      obtain ⟨hp9, hw⟩ := hw
      refine aw_callV (pc := 38) (as := [vI (1 : Int)]) C ci4 (fun As hA => met_X4_text G l As b34 (1 : Int) _ _ hA hw) tw332 tw333 tw334 tw2 tw335 ⟨rfl, rfl⟩ ⟨rfl, by decide, by decide, pd_X4_text⟩ ⟨Nat.le_of_ble_eq_true rfl, Nat.le_of_ble_eq_true rfl⟩ ⟨Nat.zero_le _, Nat.zero_le _⟩ (Nat.le_of_ble_eq_true rfl) dX3_partnerThatLeaves_38 rfl hp9 (fun v9 h38 hq9 => ?_)
      obtain ⟨r38, rfl, hw⟩ := hq9
      refine aw_iload (pc := 41) C dX3_partnerThatLeaves_41 rfl ?_
      obtain ⟨hp9, hw⟩ := hw
      refine aw_callV (pc := 43) (as := [vI x5_17]) C ci5 (fun As hA => met_X5_codeOf G l As r38 x5_17 _ _ hA hw) tw344 tw345 tw346 tw3 tw347 ⟨rfl, rfl⟩ ⟨rfl, by decide, by decide, pd_X5_codeOf⟩ ⟨Nat.le_of_ble_eq_true rfl, Nat.le_of_ble_eq_true rfl⟩ ⟨Nat.zero_le _, Nat.zero_le _⟩ (Nat.le_of_ble_eq_true rfl) dX3_partnerThatLeaves_43 rfl hp9 (fun v9 h43 hq9 => ?_)
      obtain ⟨r43, rfl, hw⟩ := hq9
      refine aw_iload (pc := 46) C dX3_partnerThatLeaves_46 rfl ?_
      obtain ⟨k_74, hk_74, hw⟩ := jn_out hw
      have J_74 : ∀  (h_74 : AH), k_74  h_74 → AW G p l e ({ frames := 1, cells := 0, slots := 0, locals := 21 } : Room) s m args below meth c 0 0 (MQ below (QG G (oI Q)) args s 0 0 (frA G)) 74 (eOf [(0, vR a0), (1, vI a1), (2, vI a2), (4, vI r9), (5, vI x5_17)]) [] h_74 := by
        intro  h_74 hw
        rw [hk_74] at hw
        obtain ⟨hp9, hw⟩ := hw
        refine aw_iincN (pc := 74) C dX3_partnerThatLeaves_74 (k := 1) (by decide) rfl (by rw [hml]; decide) hp9 (fun x5_74 e9 => ?_)
        have hw := hw x5_74 e9
        refine aw_goto (pc := 77) (tgt := 17) C dX3_partnerThatLeaves_77 (by decide) ?_
        obtain ⟨m9, hm9, hw⟩ := hw
        refine aw_sub [(0, vR a0), (1, vI a1), (2, vI a2), (4, vI r9), (5, vI x5_74)] ⟨rfl, rfl, rfl, rfl, rfl, trivial⟩ ?_
        exact ih_17 m9 hm9 _ _ hw
      refine aw_icmp_ne (pc := 48) (tgt := 74) C dX3_partnerThatLeaves_48 (by decide) (fun hc9 => ?_) (fun hc9 => ?_)
      · have hw := hw.1 hc9
        refine aw_sub [(0, vR a0), (1, vI a1), (2, vI a2), (4, vI r9), (5, vI x5_17)] ⟨rfl, rfl, rfl, rfl, rfl, trivial⟩ ?_
        exact J_74  _ hw
      · have hw := hw.2 hc9
        refine aw_aload_n (pc := 51) C dX3_partnerThatLeaves_51 rfl rfl ?_
        obtain ⟨hp9, b52, hb9, hw⟩ := hw
        refine aw_getR (pc := 52) C (ci := 3) (k := 6) ci3 (by decide) tw103 dX3_partnerThatLeaves_52 rfl hp9 hb9 ?_
        refine aw_iload_n (pc := 55) C dX3_partnerThatLeaves_55 rfl rfl ?_
        refine aw_iconst (pc := 56) C dX3_partnerThatLeaves_56 (i := (1 : Int)) (by decide) ?_
        obtain ⟨hp9, hw⟩ := hw
        refine aw_iadd (pc := 57) C dX3_partnerThatLeaves_57 hp9 ?_
        refine aw_bipush (pc := 58) C dX3_partnerThatLeaves_58 (i := (41 : Int)) (by decide) ?_
        obtain ⟨hp9, hw⟩ := hw
        refine aw_imul (pc := 60) C dX3_partnerThatLeaves_60 hp9 ?_
        refine aw_iload (pc := 61) C dX3_partnerThatLeaves_61 rfl ?_
        obtain ⟨hp9, hw⟩ := hw
        refine aw_iadd (pc := 63) C dX3_partnerThatLeaves_63 hp9 ?_
        refine aw_iconst (pc := 64) C dX3_partnerThatLeaves_64 (i := (1 : Int)) (by decide) ?_
        obtain ⟨hp9, hw⟩ := hw
        refine aw_iadd (pc := 65) C dX3_partnerThatLeaves_65 hp9 ?_
        obtain ⟨⟨k9, hp9⟩, hw⟩ := hw
        refine aw_iald (pc := 66) C dX3_partnerThatLeaves_66 hp9 ?_
        refine aw_iload_n (pc := 67) C dX3_partnerThatLeaves_67 rfl rfl ?_
        refine aw_icmp_ne (pc := 68) (tgt := 74) C dX3_partnerThatLeaves_68 (by decide) (fun hc9 => ?_) (fun hc9 => ?_)
        · have hw := hw.1 hc9
          refine aw_sub [(0, vR a0), (1, vI a1), (2, vI a2), (4, vI r9), (5, vI x5_17)] ⟨rfl, rfl, rfl, rfl, rfl, trivial⟩ ?_
          exact J_74  _ hw
        · have hw := hw.2 hc9
          refine aw_iload (pc := 71) C dX3_partnerThatLeaves_71 rfl ?_
          exact aw_iret (pc := 73) C hr dX3_partnerThatLeaves_73 ⟨Nat.le_of_ble_eq_true rfl, Nat.le_of_ble_eq_true rfl⟩ ⟨_, rfl, hw⟩
  refine aw_sub [(0, vR a0), (1, vI a1), (2, vI a2), (4, vI r9), (5, vI a3)] ⟨rfl, rfl, rfl, rfl, rfl, trivial⟩ ?_
  exact L_17 n9 _ _ hi9
theorem dX3_pair_0 : decode cX3_pair 0 = .ok (.aload_n 0, 1) := by decide +kernel
theorem dX3_pair_1 : decode cX3_pair 1 = .ok (.getfield 9, 3) := by decide +kernel
theorem dX3_pair_4 : decode cX3_pair 4 = .ok (.iload_n 1, 1) := by decide +kernel
theorem dX3_pair_5 : decode cX3_pair 5 = .ok (.iload_n 2, 1) := by decide +kernel
theorem dX3_pair_6 : decode cX3_pair 6 = .ok (.iastore, 1) := by decide +kernel
theorem dX3_pair_7 : decode cX3_pair 7 = .ok (.aload_n 0, 1) := by decide +kernel
theorem dX3_pair_8 : decode cX3_pair 8 = .ok (.getfield 15, 3) := by decide +kernel
theorem dX3_pair_11 : decode cX3_pair 11 = .ok (.iload_n 2, 1) := by decide +kernel
theorem dX3_pair_12 : decode cX3_pair 12 = .ok (.iload_n 1, 1) := by decide +kernel
theorem dX3_pair_13 : decode cX3_pair 13 = .ok (.iastore, 1) := by decide +kernel
theorem dX3_pair_14 : decode cX3_pair 14 = .ok (.aload_n 0, 1) := by decide +kernel
theorem dX3_pair_15 : decode cX3_pair 15 = .ok (.getfield 18, 3) := by decide +kernel
theorem dX3_pair_18 : decode cX3_pair 18 = .ok (.iload_n 1, 1) := by decide +kernel
theorem dX3_pair_19 : decode cX3_pair 19 = .ok (.iload_n 3, 1) := by decide +kernel
theorem dX3_pair_20 : decode cX3_pair 20 = .ok (.iastore, 1) := by decide +kernel
theorem dX3_pair_21 : decode cX3_pair 21 = .ok (.aload_n 0, 1) := by decide +kernel
theorem dX3_pair_22 : decode cX3_pair 22 = .ok (.getfield 21, 3) := by decide +kernel
theorem dX3_pair_25 : decode cX3_pair 25 = .ok (.iload_n 2, 1) := by decide +kernel
theorem dX3_pair_26 : decode cX3_pair 26 = .ok (.iload_n 3, 1) := by decide +kernel
theorem dX3_pair_27 : decode cX3_pair 27 = .ok (.iastore, 1) := by decide +kernel
theorem dX3_pair_28 : decode cX3_pair 28 = .ok (.aload_n 0, 1) := by decide +kernel
theorem dX3_pair_29 : decode cX3_pair 29 = .ok (.getfield 24, 3) := by decide +kernel
theorem dX3_pair_32 : decode cX3_pair 32 = .ok (.iload_n 3, 1) := by decide +kernel
theorem dX3_pair_33 : decode cX3_pair 33 = .ok (.dup2, 1) := by decide +kernel
theorem dX3_pair_34 : decode cX3_pair 34 = .ok (.iaload, 1) := by decide +kernel
theorem dX3_pair_35 : decode cX3_pair 35 = .ok (.iconst 1, 1) := by decide +kernel
theorem dX3_pair_36 : decode cX3_pair 36 = .ok (.iadd, 1) := by decide +kernel
theorem dX3_pair_37 : decode cX3_pair 37 = .ok (.iastore, 1) := by decide +kernel
theorem dX3_pair_38 : decode cX3_pair 38 = .ok (.aload_n 0, 1) := by decide +kernel
theorem dX3_pair_39 : decode cX3_pair 39 = .ok (.getfield 24, 3) := by decide +kernel
theorem dX3_pair_42 : decode cX3_pair 42 = .ok (.iconst 4, 1) := by decide +kernel
theorem dX3_pair_43 : decode cX3_pair 43 = .ok (.dup2, 1) := by decide +kernel
theorem dX3_pair_44 : decode cX3_pair 44 = .ok (.iaload, 1) := by decide +kernel
theorem dX3_pair_45 : decode cX3_pair 45 = .ok (.iconst 1, 1) := by decide +kernel
theorem dX3_pair_46 : decode cX3_pair 46 = .ok (.isub, 1) := by decide +kernel
theorem dX3_pair_47 : decode cX3_pair 47 = .ok (.iastore, 1) := by decide +kernel
theorem dX3_pair_48 : decode cX3_pair 48 = .ok (.aload_n 0, 1) := by decide +kernel
theorem dX3_pair_49 : decode cX3_pair 49 = .ok (.getfield 24, 3) := by decide +kernel
theorem dX3_pair_52 : decode cX3_pair 52 = .ok (.iconst 5, 1) := by decide +kernel
theorem dX3_pair_53 : decode cX3_pair 53 = .ok (.dup2, 1) := by decide +kernel
theorem dX3_pair_54 : decode cX3_pair 54 = .ok (.iaload, 1) := by decide +kernel
theorem dX3_pair_55 : decode cX3_pair 55 = .ok (.iconst 1, 1) := by decide +kernel
theorem dX3_pair_56 : decode cX3_pair 56 = .ok (.isub, 1) := by decide +kernel
theorem dX3_pair_57 : decode cX3_pair 57 = .ok (.iastore, 1) := by decide +kernel
theorem dX3_pair_58 : decode cX3_pair 58 = .ok (.return_, 1) := by decide +kernel
theorem pd_X3_pair : (parseMethodDescriptor yX3_pair.desc).map (fun d => d.parameters.length) = some 3 := by decide +kernel
def w_X3_pair (zz : Nat → Nat) (a0 : Nat) (a1 : Int) (a2 : Int) (a3 : Int) (h : AH) (Q : AH → Prop) : Prop := okA h a0 3 ∧ ∃ b1 : Nat, hfR h a0 0 = some b1 ∧ okW h b1 a1 ∧ ∀ h6 : AH, h6 = saI h b1 (u1 (haI h b1) a1 a2) → okA h6 a0 3 ∧ ∃ b8 : Nat, hfR h6 a0 1 = some b8 ∧ okW h6 b8 a2 ∧ ∀ h13 : AH, h13 = saI h6 b8 (u1 (haI h6 b8) a2 a1) → okA h13 a0 3 ∧ ∃ b15 : Nat, hfR h13 a0 2 = some b15 ∧ okW h13 b15 a1 ∧ ∀ h20 : AH, h20 = saI h13 b15 (u1 (haI h13 b15) a1 a3) → okA h20 a0 3 ∧ ∃ b22 : Nat, hfR h20 a0 3 = some b22 ∧ okW h20 b22 a2 ∧ ∀ h27 : AH, h27 = saI h20 b22 (u1 (haI h20 b22) a2 a3) → okA h27 a0 3 ∧ ∃ b29 : Nat, hfR h27 a0 4 = some b29 ∧ okI h27 b29 a3 ∧ inR ((haI h27 b29 a3) + (1 : Int)) ∧ okW h27 b29 a3 ∧ ∀ h37 : AH, h37 = saI h27 b29 (u1 (haI h27 b29) a3 ((haI h27 b29 a3) + (1 : Int))) → okA h37 a0 3 ∧ ∃ b39 : Nat, hfR h37 a0 4 = some b39 ∧ okI h37 b39 (4 : Int) ∧ inR ((haI h37 b39 (4 : Int)) - (1 : Int)) ∧ okW h37 b39 (4 : Int) ∧ ∀ h47 : AH, h47 = saI h37 b39 (u1 (haI h37 b39) (4 : Int) ((haI h37 b39 (4 : Int)) - (1 : Int))) → okA h47 a0 3 ∧ ∃ b49 : Nat, hfR h47 a0 4 = some b49 ∧ okI h47 b49 (5 : Int) ∧ inR ((haI h47 b49 (5 : Int)) - (1 : Int)) ∧ okW h47 b49 (5 : Int) ∧ ∀ h57 : AH, h57 = saI h47 b49 (u1 (haI h47 b49) (5 : Int) ((haI h47 b49 (5 : Int)) - (1 : Int))) → Q h57
set_option maxRecDepth 100000 in
set_option maxHeartbeats 4000000 in
theorem met_X3_pair (G : GG) (l : Launch) : ∀ (As : List Value) (a0 : Nat) (a1 : Int) (a2 : Int) (a3 : Int) (h : AH) (Q : AH → Prop), As.map ab = List.map some ([vR a0, vI a1, vI a2, vI a3] : List AV) → w_X3_pair G.2.2 a0 a1 a2 a3 h Q → Met l yX3_pair (.code yX3_pair cX3_pair 4 none :: xTb) ({ frames := 0, cells := 0, slots := 0, locals := 0 } : Room) (PcA G As h) (QG G (oV Q)) 0 0 (frA G) := by
  intro As a0 a1 a2 a3 h Q hA hw
  refine met_of hA (by decide) (Nat.le_of_ble_eq_true rfl) (fun p e s m args below meth c C hml hr hnm => ?_)
  unfold w_X3_pair at hw
  refine aw_aload_n (pc := 0) C dX3_pair_0 rfl rfl ?_
  obtain ⟨hp9, b1, hb9, hw⟩ := hw
  refine aw_getR (pc := 1) C (ci := 3) (k := 0) ci3 (by decide) tw89 dX3_pair_1 rfl hp9 hb9 ?_
  refine aw_iload_n (pc := 4) C dX3_pair_4 rfl rfl ?_
  refine aw_iload_n (pc := 5) C dX3_pair_5 rfl rfl ?_
  obtain ⟨⟨k9, hp9⟩, hw⟩ := hw
  refine aw_iast (pc := 6) C dX3_pair_6 hp9 (aw_nmH (fun h6 e9 => ?_))
  have hw := hw h6 e9
  refine aw_aload_n (pc := 7) C dX3_pair_7 rfl rfl ?_
  obtain ⟨hp9, b8, hb9, hw⟩ := hw
  refine aw_getR (pc := 8) C (ci := 3) (k := 1) ci3 (by decide) tw92 dX3_pair_8 rfl hp9 hb9 ?_
  refine aw_iload_n (pc := 11) C dX3_pair_11 rfl rfl ?_
  refine aw_iload_n (pc := 12) C dX3_pair_12 rfl rfl ?_
  obtain ⟨⟨k9, hp9⟩, hw⟩ := hw
  refine aw_iast (pc := 13) C dX3_pair_13 hp9 (aw_nmH (fun h13 e9 => ?_))
  have hw := hw h13 e9
  refine aw_aload_n (pc := 14) C dX3_pair_14 rfl rfl ?_
  obtain ⟨hp9, b15, hb9, hw⟩ := hw
  refine aw_getR (pc := 15) C (ci := 3) (k := 2) ci3 (by decide) tw94 dX3_pair_15 rfl hp9 hb9 ?_
  refine aw_iload_n (pc := 18) C dX3_pair_18 rfl rfl ?_
  refine aw_iload_n (pc := 19) C dX3_pair_19 rfl rfl ?_
  obtain ⟨⟨k9, hp9⟩, hw⟩ := hw
  refine aw_iast (pc := 20) C dX3_pair_20 hp9 (aw_nmH (fun h20 e9 => ?_))
  have hw := hw h20 e9
  refine aw_aload_n (pc := 21) C dX3_pair_21 rfl rfl ?_
  obtain ⟨hp9, b22, hb9, hw⟩ := hw
  refine aw_getR (pc := 22) C (ci := 3) (k := 3) ci3 (by decide) tw96 dX3_pair_22 rfl hp9 hb9 ?_
  refine aw_iload_n (pc := 25) C dX3_pair_25 rfl rfl ?_
  refine aw_iload_n (pc := 26) C dX3_pair_26 rfl rfl ?_
  obtain ⟨⟨k9, hp9⟩, hw⟩ := hw
  refine aw_iast (pc := 27) C dX3_pair_27 hp9 (aw_nmH (fun h27 e9 => ?_))
  have hw := hw h27 e9
  refine aw_aload_n (pc := 28) C dX3_pair_28 rfl rfl ?_
  obtain ⟨hp9, b29, hb9, hw⟩ := hw
  refine aw_getR (pc := 29) C (ci := 3) (k := 4) ci3 (by decide) tw98 dX3_pair_29 rfl hp9 hb9 ?_
  refine aw_iload_n (pc := 32) C dX3_pair_32 rfl rfl ?_
  refine aw_dup2 (pc := 33) C dX3_pair_33 rfl rfl ?_
  obtain ⟨⟨k9, hp9⟩, hw⟩ := hw
  refine aw_iald (pc := 34) C dX3_pair_34 hp9 ?_
  refine aw_iconst (pc := 35) C dX3_pair_35 (i := (1 : Int)) (by decide) ?_
  obtain ⟨hp9, hw⟩ := hw
  refine aw_iadd (pc := 36) C dX3_pair_36 hp9 ?_
  obtain ⟨⟨k9, hp9⟩, hw⟩ := hw
  refine aw_iast (pc := 37) C dX3_pair_37 hp9 (aw_nmH (fun h37 e9 => ?_))
  have hw := hw h37 e9
  refine aw_aload_n (pc := 38) C dX3_pair_38 rfl rfl ?_
  obtain ⟨hp9, b39, hb9, hw⟩ := hw
  refine aw_getR (pc := 39) C (ci := 3) (k := 4) ci3 (by decide) tw98 dX3_pair_39 rfl hp9 hb9 ?_
  refine aw_iconst (pc := 42) C dX3_pair_42 (i := (4 : Int)) (by decide) ?_
  refine aw_dup2 (pc := 43) C dX3_pair_43 rfl rfl ?_
  obtain ⟨⟨k9, hp9⟩, hw⟩ := hw
  refine aw_iald (pc := 44) C dX3_pair_44 hp9 ?_
  refine aw_iconst (pc := 45) C dX3_pair_45 (i := (1 : Int)) (by decide) ?_
  obtain ⟨hp9, hw⟩ := hw
  refine aw_isub (pc := 46) C dX3_pair_46 hp9 ?_
  obtain ⟨⟨k9, hp9⟩, hw⟩ := hw
  refine aw_iast (pc := 47) C dX3_pair_47 hp9 (aw_nmH (fun h47 e9 => ?_))
  have hw := hw h47 e9
  refine aw_aload_n (pc := 48) C dX3_pair_48 rfl rfl ?_
  obtain ⟨hp9, b49, hb9, hw⟩ := hw
  refine aw_getR (pc := 49) C (ci := 3) (k := 4) ci3 (by decide) tw98 dX3_pair_49 rfl hp9 hb9 ?_
  refine aw_iconst (pc := 52) C dX3_pair_52 (i := (5 : Int)) (by decide) ?_
  refine aw_dup2 (pc := 53) C dX3_pair_53 rfl rfl ?_
  obtain ⟨⟨k9, hp9⟩, hw⟩ := hw
  refine aw_iald (pc := 54) C dX3_pair_54 hp9 ?_
  refine aw_iconst (pc := 55) C dX3_pair_55 (i := (1 : Int)) (by decide) ?_
  obtain ⟨hp9, hw⟩ := hw
  refine aw_isub (pc := 56) C dX3_pair_56 hp9 ?_
  obtain ⟨⟨k9, hp9⟩, hw⟩ := hw
  refine aw_iast (pc := 57) C dX3_pair_57 hp9 (aw_nmH (fun h57 e9 => ?_))
  have hw := hw h57 e9
  exact aw_vret (pc := 58) C hr dX3_pair_58 ⟨Nat.le_of_ble_eq_true rfl, Nat.le_of_ble_eq_true rfl⟩ ⟨rfl, hw⟩
theorem dX3_pairCommon_0 : decode cX3_pairCommon 0 = .ok (.aload_n 0, 1) := by decide +kernel
theorem dX3_pairCommon_1 : decode cX3_pairCommon 1 = .ok (.invokevirtual 77, 3) := by decide +kernel
theorem dX3_pairCommon_4 : decode cX3_pairCommon 4 = .ok (.aload_n 0, 1) := by decide +kernel
theorem dX3_pairCommon_5 : decode cX3_pairCommon 5 = .ok (.getfield 27, 3) := by decide +kernel
theorem dX3_pairCommon_8 : decode cX3_pairCommon 8 = .ok (.iconst 0, 1) := by decide +kernel
theorem dX3_pairCommon_9 : decode cX3_pairCommon 9 = .ok (.iaload, 1) := by decide +kernel
theorem dX3_pairCommon_10 : decode cX3_pairCommon 10 = .ok (.istore_n 1, 1) := by decide +kernel
theorem dX3_pairCommon_11 : decode cX3_pairCommon 11 = .ok (.iconst 0, 1) := by decide +kernel
theorem dX3_pairCommon_12 : decode cX3_pairCommon 12 = .ok (.istore_n 2, 1) := by decide +kernel
theorem dX3_pairCommon_13 : decode cX3_pairCommon 13 = .ok (.iconst 0, 1) := by decide +kernel
theorem dX3_pairCommon_14 : decode cX3_pairCommon 14 = .ok (.istore_n 3, 1) := by decide +kernel
theorem dX3_pairCommon_15 : decode cX3_pairCommon 15 = .ok (.iload_n 3, 1) := by decide +kernel
theorem dX3_pairCommon_16 : decode cX3_pairCommon 16 = .ok (.aload_n 0, 1) := by decide +kernel
theorem dX3_pairCommon_17 : decode cX3_pairCommon 17 = .ok (.getfield 30, 3) := by decide +kernel
theorem dX3_pairCommon_20 : decode cX3_pairCommon 20 = .ok (.iconst 0, 1) := by decide +kernel
theorem dX3_pairCommon_21 : decode cX3_pairCommon 21 = .ok (.invokevirtual 49, 3) := by decide +kernel
theorem dX3_pairCommon_24 : decode cX3_pairCommon 24 = .ok (.getfield 73, 3) := by decide +kernel
theorem dX3_pairCommon_27 : decode cX3_pairCommon 27 = .ok (.if_icmp .ge 46, 3) := by decide +kernel
theorem dX3_pairCommon_30 : decode cX3_pairCommon 30 = .ok (.iload_n 1, 1) := by decide +kernel
theorem dX3_pairCommon_31 : decode cX3_pairCommon 31 = .ok (.ifCond .le 42, 3) := by decide +kernel
theorem dX3_pairCommon_34 : decode cX3_pairCommon 34 = .ok (.aload_n 0, 1) := by decide +kernel
theorem dX3_pairCommon_35 : decode cX3_pairCommon 35 = .ok (.iload_n 1, 1) := by decide +kernel
theorem dX3_pairCommon_36 : decode cX3_pairCommon 36 = .ok (.iconst 1, 1) := by decide +kernel
theorem dX3_pairCommon_37 : decode cX3_pairCommon 37 = .ok (.isub, 1) := by decide +kernel
theorem dX3_pairCommon_38 : decode cX3_pairCommon 38 = .ok (.iload_n 3, 1) := by decide +kernel
theorem dX3_pairCommon_39 : decode cX3_pairCommon 39 = .ok (.iload_n 2, 1) := by decide +kernel
theorem dX3_pairCommon_40 : decode cX3_pairCommon 40 = .ok (.invokevirtual 80, 3) := by decide +kernel
theorem dX3_pairCommon_43 : decode cX3_pairCommon 43 = .ok (.istore 4, 2) := by decide +kernel
theorem dX3_pairCommon_45 : decode cX3_pairCommon 45 = .ok (.iload 4, 2) := by decide +kernel
theorem dX3_pairCommon_47 : decode cX3_pairCommon 47 = .ok (.iconst (-1), 1) := by decide +kernel
theorem dX3_pairCommon_48 : decode cX3_pairCommon 48 = .ok (.if_icmp .eq 19, 3) := by decide +kernel
theorem dX3_pairCommon_51 : decode cX3_pairCommon 51 = .ok (.aload_n 0, 1) := by decide +kernel
theorem dX3_pairCommon_52 : decode cX3_pairCommon 52 = .ok (.iload_n 3, 1) := by decide +kernel
theorem dX3_pairCommon_53 : decode cX3_pairCommon 53 = .ok (.iload 4, 2) := by decide +kernel
theorem dX3_pairCommon_55 : decode cX3_pairCommon 55 = .ok (.iconst 1, 1) := by decide +kernel
theorem dX3_pairCommon_56 : decode cX3_pairCommon 56 = .ok (.invokevirtual 84, 3) := by decide +kernel
theorem dX3_pairCommon_59 : decode cX3_pairCommon 59 = .ok (.iload 4, 2) := by decide +kernel
theorem dX3_pairCommon_61 : decode cX3_pairCommon 61 = .ok (.iconst 1, 1) := by decide +kernel
theorem dX3_pairCommon_62 : decode cX3_pairCommon 62 = .ok (.iadd, 1) := by decide +kernel
theorem dX3_pairCommon_63 : decode cX3_pairCommon 63 = .ok (.istore_n 2, 1) := by decide +kernel
theorem dX3_pairCommon_64 : decode cX3_pairCommon 64 = .ok (.iinc 1 (-1), 3) := by decide +kernel
theorem dX3_pairCommon_67 : decode cX3_pairCommon 67 = .ok (.iinc 3 1, 3) := by decide +kernel
theorem dX3_pairCommon_70 : decode cX3_pairCommon 70 = .ok (.goto (-55), 3) := by decide +kernel
theorem dX3_pairCommon_73 : decode cX3_pairCommon 73 = .ok (.return_, 1) := by decide +kernel
theorem pd_X3_pairCommon : (parseMethodDescriptor yX3_pairCommon.desc).map (fun d => d.parameters.length) = some 0 := by decide +kernel
def w_X3_pairCommon (zz : Nat → Nat) (a0 : Nat) (h : AH) (Q : AH → Prop) : Prop := okA h a0 3 ∧ w_X3_measureLongest zz a0 h (fun  (h1 : AH) => okA h1 a0 3 ∧ ∃ b5 : Nat, hfR h1 a0 6 = some b5 ∧ okI h1 b5 (0 : Int) ∧ ∀ x1_10 : Int, x1_10 = (haI h1 b5 (0 : Int)) → ∃ I_15 : Nat → Int → Int → Int → AH → Prop, (∃ n, I_15 n x1_10 (0 : Int) (0 : Int) h1) ∧ ∀ (n_15 : Nat) (x1_15 : Int) (x2_15 : Int) (x3_15 : Int) (h_15 : AH), I_15 n_15 x1_15 x2_15 x3_15 h_15 → (okA h_15 a0 3 ∧ ∃ b17 : Nat, hfR h_15 a0 5 = some b17 ∧ okA h_15 b17 4 ∧ w_X4_text zz b17 (0 : Int) h_15 (fun (r21 : Nat) (h21 : AH) => okA h21 r21 5 ∧ jn (fun  (h_73 : AH) => Q h_73) (fun k_73 : AH → Prop => (((hfI h21 r21 2) ≤ x3_15) → k_73  h21) ∧ ((¬ ((hfI h21 r21 2) ≤ x3_15)) → ((x1_15 ≤ 0) → k_73  h21) ∧ ((¬ (x1_15 ≤ 0)) → inR (x1_15 - (1 : Int)) ∧ okA h21 a0 3 ∧ w_X3_partnerThatLeaves zz a0 (x1_15 - (1 : Int)) x3_15 x2_15 h21 (fun (r40 : Int) (h40 : AH) => jn (fun (x1_67 : Int) (x2_67 : Int) (h_67 : AH) => inR (x3_15 + 1) ∧ ∀ x3_67 : Int, x3_67 = (x3_15 + 1) → ∃ m, m < n_15 ∧ I_15 m x1_67 x2_67 x3_67 h_67) (fun k_67 : Int → Int → AH → Prop => ((r40 = (-1 : Int)) → k_67 x1_15 x2_15 h40) ∧ ((¬ (r40 = (-1 : Int))) → okA h40 a0 3 ∧ w_X3_pair zz a0 x3_15 r40 (1 : Int) h40 (fun  (h56 : AH) => inR (r40 + (1 : Int)) ∧ ∀ x2_63 : Int, x2_63 = (r40 + (1 : Int)) → inR (x1_15 + (-1)) ∧ ∀ x1_64 : Int, x1_64 = (x1_15 + (-1)) → k_67 x1_64 x2_63 h56))))))))))
set_option maxRecDepth 100000 in
set_option maxHeartbeats 4000000 in
theorem met_X3_pairCommon (G : GG) (l : Launch) : ∀ (As : List Value) (a0 : Nat) (h : AH) (Q : AH → Prop), As.map ab = List.map some ([vR a0] : List AV) → w_X3_pairCommon G.2.2 a0 h Q → Met l yX3_pairCommon (.code yX3_pairCommon cX3_pairCommon 5 none :: xTb) ({ frames := 2, cells := 0, slots := 0, locals := 48 } : Room) (PcA G As h) (QG G (oV Q)) 0 0 (frA G) := by
  intro As a0 h Q hA hw
  refine met_of hA (by decide) (Nat.le_of_ble_eq_true rfl) (fun p e s m args below meth c C hml hr hnm => ?_)
  unfold w_X3_pairCommon at hw
  refine aw_aload_n (pc := 0) C dX3_pairCommon_0 rfl rfl ?_
  obtain ⟨hp9, hw⟩ := hw
  refine aw_callV (pc := 1) (as := []) C ci3 (fun As hA => met_X3_measureLongest G l As a0 _ _ hA hw) tw340 tw342 (tbp 4 (n := 7) (by decide +kernel)) tw7 tw343 ⟨rfl, rfl⟩ ⟨rfl, by decide, by decide, pd_X3_measureLongest⟩ ⟨Nat.le_of_ble_eq_true rfl, Nat.le_of_ble_eq_true rfl⟩ ⟨Nat.zero_le _, Nat.zero_le _⟩ (Nat.le_of_ble_eq_true rfl) dX3_pairCommon_1 rfl hp9 (fun v9 h1 hq9 => ?_)
  obtain ⟨rfl, hw⟩ := hq9
  refine aw_aload_n (pc := 4) C dX3_pairCommon_4 rfl rfl ?_
  obtain ⟨hp9, b5, hb9, hw⟩ := hw
  refine aw_getR (pc := 5) C (ci := 3) (k := 6) ci3 (by decide) tw103 dX3_pairCommon_5 rfl hp9 hb9 ?_
  refine aw_iconst (pc := 8) C dX3_pairCommon_8 (i := (0 : Int)) (by decide) ?_
  obtain ⟨⟨k9, hp9⟩, hw⟩ := hw
  refine aw_iald (pc := 9) C dX3_pairCommon_9 hp9 ?_
  refine aw_nmI (fun x1_10 e9 => ?_)
  have hw := hw x1_10 e9
  refine aw_istore_n (pc := 10) C dX3_pairCommon_10 rfl (by rw [hml]; decide) ?_
  refine aw_iconst (pc := 11) C dX3_pairCommon_11 (i := (0 : Int)) (by decide) ?_
  refine aw_istore_n (pc := 12) C dX3_pairCommon_12 rfl (by rw [hml]; decide) ?_
  refine aw_iconst (pc := 13) C dX3_pairCommon_13 (i := (0 : Int)) (by decide) ?_
  refine aw_istore_n (pc := 14) C dX3_pairCommon_14 rfl (by rw [hml]; decide) ?_
  obtain ⟨I_15, ⟨n9, hi9⟩, hst9⟩ := hw
  have L_15 : ∀ (n_15 : Nat) (x1_15 : Int) (x2_15 : Int) (x3_15 : Int) (h_15 : AH), I_15 n_15 x1_15 x2_15 x3_15 h_15 → AW G p l e ({ frames := 2, cells := 0, slots := 0, locals := 48 } : Room) s m args below meth c 0 0 (MQ below (QG G (oV Q)) args s 0 0 (frA G)) 15 (eOf [(0, vR a0), (1, vI x1_15), (2, vI x2_15), (3, vI x3_15)]) [] h_15 := by
    intro n_15
    induction n_15 using Nat.strongRecOn with
    | _ n_15 ih_15 =>
    intro x1_15 x2_15 x3_15 h_15 hi9
    have hw := hst9 n_15 x1_15 x2_15 x3_15 h_15 hi9
    refine aw_iload_n (pc := 15) C dX3_pairCommon_15 rfl rfl ?_
    refine aw_aload_n (pc := 16) C dX3_pairCommon_16 rfl rfl ?_
    obtain ⟨hp9, b17, hb9, hw⟩ := hw
    refine aw_getR (pc := 17) C (ci := 3) (k := 5) ci3 (by decide) tw102 dX3_pairCommon_17 rfl hp9 hb9 ?_
    refine aw_iconst (pc := 20) C dX3_pairCommon_20 (i := (0 : Int)) (by decide) ?_
    obtain ⟨hp9, hw⟩ := hw
    refine aw_callV (pc := 21) (as := [vI (0 : Int)]) C ci4 (fun As hA => met_X4_text G l As b17 (0 : Int) _ _ hA hw) tw332 tw333 tw334 tw2 tw335 ⟨rfl, rfl⟩ ⟨rfl, by decide, by decide, pd_X4_text⟩ ⟨Nat.le_of_ble_eq_true rfl, Nat.le_of_ble_eq_true rfl⟩ ⟨Nat.zero_le _, Nat.zero_le _⟩ (Nat.le_of_ble_eq_true rfl) dX3_pairCommon_21 rfl hp9 (fun v9 h21 hq9 => ?_)
    obtain ⟨r21, rfl, hw⟩ := hq9
    obtain ⟨hp9, hw⟩ := hw
    refine aw_getI (pc := 24) C (ci := 5) (k := 2) ci5 (by decide) tw48 dX3_pairCommon_24 rfl hp9 ?_
    obtain ⟨k_73, hk_73, hw⟩ := jn_out hw
    have J_73 : ∀  (h_73 : AH), k_73  h_73 → AW G p l e ({ frames := 2, cells := 0, slots := 0, locals := 48 } : Room) s m args below meth c 0 0 (MQ below (QG G (oV Q)) args s 0 0 (frA G)) 73 (eOf []) [] h_73 := by
      intro  h_73 hw
      rw [hk_73] at hw
      exact aw_vret (pc := 73) C hr dX3_pairCommon_73 ⟨Nat.le_of_ble_eq_true rfl, Nat.le_of_ble_eq_true rfl⟩ ⟨rfl, hw⟩
    refine aw_icmp_ge (pc := 27) (tgt := 73) C dX3_pairCommon_27 (by decide) (fun hc9 => ?_) (fun hc9 => ?_)
    · have hw := hw.1 hc9
      refine aw_sub [] trivial ?_
      exact J_73  _ hw
    · have hw := hw.2 hc9
      refine aw_iload_n (pc := 30) C dX3_pairCommon_30 rfl rfl ?_
      refine aw_if_le (pc := 31) (tgt := 73) C dX3_pairCommon_31 (by decide) (fun hc9 => ?_) (fun hc9 => ?_)
      · have hw := hw.1 hc9
        refine aw_sub [] trivial ?_
        exact J_73  _ hw
      · have hw := hw.2 hc9
        refine aw_aload_n (pc := 34) C dX3_pairCommon_34 rfl rfl ?_
        refine aw_iload_n (pc := 35) C dX3_pairCommon_35 rfl rfl ?_
        refine aw_iconst (pc := 36) C dX3_pairCommon_36 (i := (1 : Int)) (by decide) ?_
        obtain ⟨hp9, hw⟩ := hw
        refine aw_isub (pc := 37) C dX3_pairCommon_37 hp9 ?_
        refine aw_iload_n (pc := 38) C dX3_pairCommon_38 rfl rfl ?_
        refine aw_iload_n (pc := 39) C dX3_pairCommon_39 rfl rfl ?_
        obtain ⟨hp9, hw⟩ := hw
        refine aw_callV (pc := 40) (as := [vI (x1_15 - (1 : Int)), vI x3_15, vI x2_15]) C ci3 (fun As hA => met_X3_partnerThatLeaves G l As a0 (x1_15 - (1 : Int)) x3_15 x2_15 _ _ hA hw) tw351 tw353 (tbp 5 (n := 7) (by decide +kernel)) tw7 tw354 ⟨rfl, rfl⟩ ⟨rfl, by decide, by decide, pd_X3_partnerThatLeaves⟩ ⟨Nat.le_of_ble_eq_true rfl, Nat.le_of_ble_eq_true rfl⟩ ⟨Nat.zero_le _, Nat.zero_le _⟩ (Nat.le_of_ble_eq_true rfl) dX3_pairCommon_40 rfl hp9 (fun v9 h40 hq9 => ?_)
        obtain ⟨r40, rfl, hw⟩ := hq9
        refine aw_istore (pc := 43) C dX3_pairCommon_43 (by rw [hml]; decide) ?_
        refine aw_iload (pc := 45) C dX3_pairCommon_45 rfl ?_
        refine aw_iconst (pc := 47) C dX3_pairCommon_47 (i := (-1 : Int)) (by decide) ?_
        obtain ⟨k_67, hk_67, hw⟩ := jn_out hw
        have J_67 : ∀ (x1_67 : Int) (x2_67 : Int) (h_67 : AH), k_67 x1_67 x2_67 h_67 → AW G p l e ({ frames := 2, cells := 0, slots := 0, locals := 48 } : Room) s m args below meth c 0 0 (MQ below (QG G (oV Q)) args s 0 0 (frA G)) 67 (eOf [(0, vR a0), (1, vI x1_67), (2, vI x2_67), (3, vI x3_15)]) [] h_67 := by
          intro x1_67 x2_67 h_67 hw
          rw [hk_67] at hw
          obtain ⟨hp9, hw⟩ := hw
          refine aw_iincN (pc := 67) C dX3_pairCommon_67 (k := 1) (by decide) rfl (by rw [hml]; decide) hp9 (fun x3_67 e9 => ?_)
          have hw := hw x3_67 e9
          refine aw_goto (pc := 70) (tgt := 15) C dX3_pairCommon_70 (by decide) ?_
          obtain ⟨m9, hm9, hw⟩ := hw
          refine aw_sub [(0, vR a0), (1, vI x1_67), (2, vI x2_67), (3, vI x3_67)] ⟨rfl, rfl, rfl, rfl, trivial⟩ ?_
          exact ih_15 m9 hm9 _ _ _ _ hw
        refine aw_icmp_eq (pc := 48) (tgt := 67) C dX3_pairCommon_48 (by decide) (fun hc9 => ?_) (fun hc9 => ?_)
        · have hw := hw.1 hc9
          refine aw_sub [(0, vR a0), (1, vI x1_15), (2, vI x2_15), (3, vI x3_15)] ⟨rfl, rfl, rfl, rfl, trivial⟩ ?_
          exact J_67 _ _ _ hw
        · have hw := hw.2 hc9
          refine aw_aload_n (pc := 51) C dX3_pairCommon_51 rfl rfl ?_
          refine aw_iload_n (pc := 52) C dX3_pairCommon_52 rfl rfl ?_
          refine aw_iload (pc := 53) C dX3_pairCommon_53 rfl ?_
          refine aw_iconst (pc := 55) C dX3_pairCommon_55 (i := (1 : Int)) (by decide) ?_
          obtain ⟨hp9, hw⟩ := hw
          refine aw_callV (pc := 56) (as := [vI x3_15, vI r40, vI (1 : Int)]) C ci3 (fun As hA => met_X3_pair G l As a0 x3_15 r40 (1 : Int) _ _ hA hw) tw355 tw357 (tbp 6 (n := 7) (by decide +kernel)) tw7 tw358 ⟨rfl, rfl⟩ ⟨rfl, by decide, by decide, pd_X3_pair⟩ ⟨Nat.le_of_ble_eq_true rfl, Nat.le_of_ble_eq_true rfl⟩ ⟨Nat.zero_le _, Nat.zero_le _⟩ (Nat.le_of_ble_eq_true rfl) dX3_pairCommon_56 rfl hp9 (fun v9 h56 hq9 => ?_)
          obtain ⟨rfl, hw⟩ := hq9
          refine aw_iload (pc := 59) C dX3_pairCommon_59 rfl ?_
          refine aw_iconst (pc := 61) C dX3_pairCommon_61 (i := (1 : Int)) (by decide) ?_
          obtain ⟨hp9, hw⟩ := hw
          refine aw_iadd (pc := 62) C dX3_pairCommon_62 hp9 ?_
          refine aw_nmI (fun x2_63 e9 => ?_)
          have hw := hw x2_63 e9
          refine aw_istore_n (pc := 63) C dX3_pairCommon_63 rfl (by rw [hml]; decide) ?_
          obtain ⟨hp9, hw⟩ := hw
          refine aw_iincN (pc := 64) C dX3_pairCommon_64 (k := (-1)) (by decide) rfl (by rw [hml]; decide) hp9 (fun x1_64 e9 => ?_)
          have hw := hw x1_64 e9
          refine aw_sub [(0, vR a0), (1, vI x1_64), (2, vI x2_63), (3, vI x3_15)] ⟨rfl, rfl, rfl, rfl, trivial⟩ ?_
          exact J_67 _ _ _ hw
  refine aw_sub [(0, vR a0), (1, vI x1_10), (2, vI (0 : Int)), (3, vI (0 : Int))] ⟨rfl, rfl, rfl, rfl, trivial⟩ ?_
  exact L_15 n9 _ _ _ _ hi9
theorem dX3_mayBePaired_0 : decode cX3_mayBePaired 0 = .ok (.aload_n 0, 1) := by decide +kernel
theorem dX3_mayBePaired_1 : decode cX3_mayBePaired 1 = .ok (.getfield 9, 3) := by decide +kernel
theorem dX3_mayBePaired_4 : decode cX3_mayBePaired 4 = .ok (.iload_n 1, 1) := by decide +kernel
theorem dX3_mayBePaired_5 : decode cX3_mayBePaired 5 = .ok (.iaload, 1) := by decide +kernel
theorem dX3_mayBePaired_6 : decode cX3_mayBePaired 6 = .ok (.iconst (-1), 1) := by decide +kernel
theorem dX3_mayBePaired_7 : decode cX3_mayBePaired 7 = .ok (.if_icmp .ne 13, 3) := by decide +kernel
theorem dX3_mayBePaired_10 : decode cX3_mayBePaired 10 = .ok (.aload_n 0, 1) := by decide +kernel
theorem dX3_mayBePaired_11 : decode cX3_mayBePaired 11 = .ok (.getfield 15, 3) := by decide +kernel
theorem dX3_mayBePaired_14 : decode cX3_mayBePaired 14 = .ok (.iload_n 2, 1) := by decide +kernel
theorem dX3_mayBePaired_15 : decode cX3_mayBePaired 15 = .ok (.iaload, 1) := by decide +kernel
theorem dX3_mayBePaired_16 : decode cX3_mayBePaired 16 = .ok (.iconst (-1), 1) := by decide +kernel
theorem dX3_mayBePaired_17 : decode cX3_mayBePaired 17 = .ok (.if_icmp .eq 5, 3) := by decide +kernel
theorem dX3_mayBePaired_20 : decode cX3_mayBePaired 20 = .ok (.iconst 0, 1) := by decide +kernel
theorem dX3_mayBePaired_21 : decode cX3_mayBePaired 21 = .ok (.ireturn, 1) := by decide +kernel
theorem dX3_mayBePaired_22 : decode cX3_mayBePaired 22 = .ok (.iload_n 3, 1) := by decide +kernel
theorem dX3_mayBePaired_23 : decode cX3_mayBePaired 23 = .ok (.iconst 2, 1) := by decide +kernel
theorem dX3_mayBePaired_24 : decode cX3_mayBePaired 24 = .ok (.if_icmp .ne 32, 3) := by decide +kernel
theorem dX3_mayBePaired_27 : decode cX3_mayBePaired 27 = .ok (.aload_n 0, 1) := by decide +kernel
theorem dX3_mayBePaired_28 : decode cX3_mayBePaired 28 = .ok (.getfield 30, 3) := by decide +kernel
theorem dX3_mayBePaired_31 : decode cX3_mayBePaired 31 = .ok (.iconst 0, 1) := by decide +kernel
theorem dX3_mayBePaired_32 : decode cX3_mayBePaired 32 = .ok (.invokevirtual 49, 3) := by decide +kernel
theorem dX3_mayBePaired_35 : decode cX3_mayBePaired 35 = .ok (.iload_n 1, 1) := by decide +kernel
theorem dX3_mayBePaired_36 : decode cX3_mayBePaired 36 = .ok (.invokevirtual 88, 3) := by decide +kernel
theorem dX3_mayBePaired_39 : decode cX3_mayBePaired 39 = .ok (.aload_n 0, 1) := by decide +kernel
theorem dX3_mayBePaired_40 : decode cX3_mayBePaired 40 = .ok (.getfield 30, 3) := by decide +kernel
theorem dX3_mayBePaired_43 : decode cX3_mayBePaired 43 = .ok (.iconst 1, 1) := by decide +kernel
theorem dX3_mayBePaired_44 : decode cX3_mayBePaired 44 = .ok (.invokevirtual 49, 3) := by decide +kernel
theorem dX3_mayBePaired_47 : decode cX3_mayBePaired 47 = .ok (.iload_n 2, 1) := by decide +kernel
theorem dX3_mayBePaired_48 : decode cX3_mayBePaired 48 = .ok (.invokevirtual 88, 3) := by decide +kernel
theorem dX3_mayBePaired_51 : decode cX3_mayBePaired 51 = .ok (.if_icmp .eq 5, 3) := by decide +kernel
theorem dX3_mayBePaired_54 : decode cX3_mayBePaired 54 = .ok (.iconst 0, 1) := by decide +kernel
theorem dX3_mayBePaired_55 : decode cX3_mayBePaired 55 = .ok (.ireturn, 1) := by decide +kernel
theorem dX3_mayBePaired_56 : decode cX3_mayBePaired 56 = .ok (.aload_n 0, 1) := by decide +kernel
theorem dX3_mayBePaired_57 : decode cX3_mayBePaired 57 = .ok (.getfield 30, 3) := by decide +kernel
theorem dX3_mayBePaired_60 : decode cX3_mayBePaired 60 = .ok (.getfield 40, 3) := by decide +kernel
theorem dX3_mayBePaired_63 : decode cX3_mayBePaired 63 = .ok (.iconst 3, 1) := by decide +kernel
theorem dX3_mayBePaired_64 : decode cX3_mayBePaired 64 = .ok (.iaload, 1) := by decide +kernel
theorem dX3_mayBePaired_65 : decode cX3_mayBePaired 65 = .ok (.ifCond .eq 30, 3) := by decide +kernel
theorem dX3_mayBePaired_68 : decode cX3_mayBePaired 68 = .ok (.aload_n 0, 1) := by decide +kernel
theorem dX3_mayBePaired_69 : decode cX3_mayBePaired 69 = .ok (.getfield 30, 3) := by decide +kernel
theorem dX3_mayBePaired_72 : decode cX3_mayBePaired 72 = .ok (.iconst 0, 1) := by decide +kernel
theorem dX3_mayBePaired_73 : decode cX3_mayBePaired 73 = .ok (.invokevirtual 49, 3) := by decide +kernel
theorem dX3_mayBePaired_76 : decode cX3_mayBePaired 76 = .ok (.iload_n 1, 1) := by decide +kernel
theorem dX3_mayBePaired_77 : decode cX3_mayBePaired 77 = .ok (.invokevirtual 64, 3) := by decide +kernel
theorem dX3_mayBePaired_80 : decode cX3_mayBePaired 80 = .ok (.aload_n 0, 1) := by decide +kernel
theorem dX3_mayBePaired_81 : decode cX3_mayBePaired 81 = .ok (.getfield 30, 3) := by decide +kernel
theorem dX3_mayBePaired_84 : decode cX3_mayBePaired 84 = .ok (.iconst 1, 1) := by decide +kernel
theorem dX3_mayBePaired_85 : decode cX3_mayBePaired 85 = .ok (.invokevirtual 49, 3) := by decide +kernel
theorem dX3_mayBePaired_88 : decode cX3_mayBePaired 88 = .ok (.iload_n 2, 1) := by decide +kernel
theorem dX3_mayBePaired_89 : decode cX3_mayBePaired 89 = .ok (.invokevirtual 64, 3) := by decide +kernel
theorem dX3_mayBePaired_92 : decode cX3_mayBePaired 92 = .ok (.if_icmp .ne 7, 3) := by decide +kernel
theorem dX3_mayBePaired_95 : decode cX3_mayBePaired 95 = .ok (.iconst 1, 1) := by decide +kernel
theorem dX3_mayBePaired_96 : decode cX3_mayBePaired 96 = .ok (.goto 4, 3) := by decide +kernel
theorem dX3_mayBePaired_99 : decode cX3_mayBePaired 99 = .ok (.iconst 0, 1) := by decide +kernel
theorem dX3_mayBePaired_100 : decode cX3_mayBePaired 100 = .ok (.ireturn, 1) := by decide +kernel
theorem pd_X3_mayBePaired : (parseMethodDescriptor yX3_mayBePaired.desc).map (fun d => d.parameters.length) = some 3 := by decide +kernel
def w_X3_mayBePaired (zz : Nat → Nat) (a0 : Nat) (a1 : Int) (a2 : Int) (a3 : Int) (h : AH) (Q : Int → AH → Prop) : Prop := okA h a0 3 ∧ ∃ b1 : Nat, hfR h a0 0 = some b1 ∧ okI h b1 a1 ∧ jn (fun  (h_20 : AH) => ((0 : Int) = 0 ∨ (0 : Int) = 1) ∧ Q (0 : Int) h_20) (fun k_20 : AH → Prop => ((¬ (haI h b1 a1) = (-1 : Int)) → k_20  h) ∧ (((haI h b1 a1) = (-1 : Int)) → okA h a0 3 ∧ ∃ b11 : Nat, hfR h a0 1 = some b11 ∧ okI h b11 a2 ∧ (((haI h b11 a2) = (-1 : Int)) → jn (fun  (h_56 : AH) => okA h_56 a0 3 ∧ ∃ b57 : Nat, hfR h_56 a0 5 = some b57 ∧ okA h_56 b57 4 ∧ ∃ b60 : Nat, hfR h_56 b57 0 = some b60 ∧ okI h_56 b60 (3 : Int) ∧ jn (fun (t0_100 : Int) (h_100 : AH) => (t0_100 = 0 ∨ t0_100 = 1) ∧ Q t0_100 h_100) (fun k_100 : Int → AH → Prop => jn (fun  (h_95 : AH) => k_100 (1 : Int) h_95) (fun k_95 : AH → Prop => (((haI h_56 b60 (3 : Int)) = 0) → k_95  h_56) ∧ ((¬ ((haI h_56 b60 (3 : Int)) = 0)) → okA h_56 a0 3 ∧ ∃ b69 : Nat, hfR h_56 a0 5 = some b69 ∧ okA h_56 b69 4 ∧ w_X4_text zz b69 (0 : Int) h_56 (fun (r73 : Nat) (h73 : AH) => okA h73 r73 5 ∧ w_X5_rowOf zz r73 a1 h73 (fun (r77 : Int) (h77 : AH) => okA h77 a0 3 ∧ ∃ b81 : Nat, hfR h77 a0 5 = some b81 ∧ okA h77 b81 4 ∧ w_X4_text zz b81 (1 : Int) h77 (fun (r85 : Nat) (h85 : AH) => okA h85 r85 5 ∧ w_X5_rowOf zz r85 a2 h85 (fun (r89 : Int) (h89 : AH) => ((¬ r77 = r89) → k_100 (0 : Int) h89) ∧ ((r77 = r89) → k_95  h89))))))))) (fun k_56 : AH → Prop => ((¬ a3 = (2 : Int)) → k_56  h) ∧ ((a3 = (2 : Int)) → okA h a0 3 ∧ ∃ b28 : Nat, hfR h a0 5 = some b28 ∧ okA h b28 4 ∧ w_X4_text zz b28 (0 : Int) h (fun (r32 : Nat) (h32 : AH) => okA h32 r32 5 ∧ w_X5_codeOf zz r32 a1 h32 (fun (r36 : Int) (h36 : AH) => okA h36 a0 3 ∧ ∃ b40 : Nat, hfR h36 a0 5 = some b40 ∧ okA h36 b40 4 ∧ w_X4_text zz b40 (1 : Int) h36 (fun (r44 : Nat) (h44 : AH) => okA h44 r44 5 ∧ w_X5_codeOf zz r44 a2 h44 (fun (r48 : Int) (h48 : AH) => ((r36 = r48) → k_56  h48) ∧ ((¬ (r36 = r48)) → ((0 : Int) = 0 ∨ (0 : Int) = 1) ∧ Q (0 : Int) h48)))))))) ∧ ((¬ ((haI h b11 a2) = (-1 : Int))) → k_20  h)))
set_option maxRecDepth 100000 in
set_option maxHeartbeats 4000000 in
theorem met_X3_mayBePaired (G : GG) (l : Launch) : ∀ (As : List Value) (a0 : Nat) (a1 : Int) (a2 : Int) (a3 : Int) (h : AH) (Q : Int → AH → Prop), As.map ab = List.map some ([vR a0, vI a1, vI a2, vI a3] : List AV) → w_X3_mayBePaired G.2.2 a0 a1 a2 a3 h Q → Met l yX3_mayBePaired (.code yX3_mayBePaired cX3_mayBePaired 4 (some .boolean) :: xTb) ({ frames := 1, cells := 0, slots := 0, locals := 21 } : Room) (PcA G As h) (QG G (oI Q)) 0 0 (frA G) := by
  intro As a0 a1 a2 a3 h Q hA hw
  refine met_of hA (by decide) (Nat.le_of_ble_eq_true rfl) (fun p e s m args below meth c C hml hr hnm => ?_)
  unfold w_X3_mayBePaired at hw
  refine aw_aload_n (pc := 0) C dX3_mayBePaired_0 rfl rfl ?_
  obtain ⟨hp9, b1, hb9, hw⟩ := hw
  refine aw_getR (pc := 1) C (ci := 3) (k := 0) ci3 (by decide) tw89 dX3_mayBePaired_1 rfl hp9 hb9 ?_
  refine aw_iload_n (pc := 4) C dX3_mayBePaired_4 rfl rfl ?_
  obtain ⟨⟨k9, hp9⟩, hw⟩ := hw
  refine aw_iald (pc := 5) C dX3_mayBePaired_5 hp9 ?_
  refine aw_iconst (pc := 6) C dX3_mayBePaired_6 (i := (-1 : Int)) (by decide) ?_
  obtain ⟨k_20, hk_20, hw⟩ := jn_out hw
  have J_20 : ∀  (h_20 : AH), k_20  h_20 → AW G p l e ({ frames := 1, cells := 0, slots := 0, locals := 21 } : Room) s m args below meth c 0 0 (MQ below (QG G (oI Q)) args s 0 0 (frA G)) 20 (eOf []) [] h_20 := by
    intro  h_20 hw
    rw [hk_20] at hw
    refine aw_iconst (pc := 20) C dX3_mayBePaired_20 (i := (0 : Int)) (by decide) ?_
    obtain ⟨hp9, hw⟩ := hw
    exact aw_zret (pc := 21) C hr dX3_mayBePaired_21 ⟨Nat.le_of_ble_eq_true rfl, Nat.le_of_ble_eq_true rfl⟩ hp9 ⟨_, rfl, hw⟩
  refine aw_icmp_ne (pc := 7) (tgt := 20) C dX3_mayBePaired_7 (by decide) (fun hc9 => ?_) (fun hc9 => ?_)
  · have hw := hw.1 hc9
    refine aw_sub [] trivial ?_
    exact J_20  _ hw
  · have hw := hw.2 hc9
    refine aw_aload_n (pc := 10) C dX3_mayBePaired_10 rfl rfl ?_
    obtain ⟨hp9, b11, hb9, hw⟩ := hw
    refine aw_getR (pc := 11) C (ci := 3) (k := 1) ci3 (by decide) tw92 dX3_mayBePaired_11 rfl hp9 hb9 ?_
    refine aw_iload_n (pc := 14) C dX3_mayBePaired_14 rfl rfl ?_
    obtain ⟨⟨k9, hp9⟩, hw⟩ := hw
    refine aw_iald (pc := 15) C dX3_mayBePaired_15 hp9 ?_
    refine aw_iconst (pc := 16) C dX3_mayBePaired_16 (i := (-1 : Int)) (by decide) ?_
    refine aw_icmp_eq (pc := 17) (tgt := 22) C dX3_mayBePaired_17 (by decide) (fun hc9 => ?_) (fun hc9 => ?_)
    · have hw := hw.1 hc9
      refine aw_iload_n (pc := 22) C dX3_mayBePaired_22 rfl rfl ?_
      refine aw_iconst (pc := 23) C dX3_mayBePaired_23 (i := (2 : Int)) (by decide) ?_
      obtain ⟨k_56, hk_56, hw⟩ := jn_out hw
      have J_56 : ∀  (h_56 : AH), k_56  h_56 → AW G p l e ({ frames := 1, cells := 0, slots := 0, locals := 21 } : Room) s m args below meth c 0 0 (MQ below (QG G (oI Q)) args s 0 0 (frA G)) 56 (eOf [(0, vR a0), (1, vI a1), (2, vI a2)]) [] h_56 := by
        intro  h_56 hw
        rw [hk_56] at hw
        refine aw_aload_n (pc := 56) C dX3_mayBePaired_56 rfl rfl ?_
        obtain ⟨hp9, b57, hb9, hw⟩ := hw
        refine aw_getR (pc := 57) C (ci := 3) (k := 5) ci3 (by decide) tw102 dX3_mayBePaired_57 rfl hp9 hb9 ?_
        obtain ⟨hp9, b60, hb9, hw⟩ := hw
        refine aw_getR (pc := 60) C (ci := 4) (k := 0) ci4 (by decide) tw65 dX3_mayBePaired_60 rfl hp9 hb9 ?_
        refine aw_iconst (pc := 63) C dX3_mayBePaired_63 (i := (3 : Int)) (by decide) ?_
        obtain ⟨⟨k9, hp9⟩, hw⟩ := hw
        refine aw_iald (pc := 64) C dX3_mayBePaired_64 hp9 ?_
        obtain ⟨k_100, hk_100, hw⟩ := jn_out hw
        have J_100 : ∀ (t0_100 : Int) (h_100 : AH), k_100 t0_100 h_100 → AW G p l e ({ frames := 1, cells := 0, slots := 0, locals := 21 } : Room) s m args below meth c 0 0 (MQ below (QG G (oI Q)) args s 0 0 (frA G)) 100 (eOf []) [vI t0_100] h_100 := by
          intro t0_100 h_100 hw
          rw [hk_100] at hw
          obtain ⟨hp9, hw⟩ := hw
          exact aw_zret (pc := 100) C hr dX3_mayBePaired_100 ⟨Nat.le_of_ble_eq_true rfl, Nat.le_of_ble_eq_true rfl⟩ hp9 ⟨_, rfl, hw⟩
        obtain ⟨k_95, hk_95, hw⟩ := jn_out hw
        have J_95 : ∀  (h_95 : AH), k_95  h_95 → AW G p l e ({ frames := 1, cells := 0, slots := 0, locals := 21 } : Room) s m args below meth c 0 0 (MQ below (QG G (oI Q)) args s 0 0 (frA G)) 95 (eOf []) [] h_95 := by
          intro  h_95 hw
          rw [hk_95] at hw
          refine aw_iconst (pc := 95) C dX3_mayBePaired_95 (i := (1 : Int)) (by decide) ?_
          refine aw_goto (pc := 96) (tgt := 100) C dX3_mayBePaired_96 (by decide) ?_
          refine aw_sub [] trivial ?_
          exact J_100 _ _ hw
        refine aw_if_eq (pc := 65) (tgt := 95) C dX3_mayBePaired_65 (by decide) (fun hc9 => ?_) (fun hc9 => ?_)
        · have hw := hw.1 hc9
          refine aw_sub [] trivial ?_
          exact J_95  _ hw
        · have hw := hw.2 hc9
          refine aw_aload_n (pc := 68) C dX3_mayBePaired_68 rfl rfl ?_
          obtain ⟨hp9, b69, hb9, hw⟩ := hw
          refine aw_getR (pc := 69) C (ci := 3) (k := 5) ci3 (by decide) tw102 dX3_mayBePaired_69 rfl hp9 hb9 ?_
          refine aw_iconst (pc := 72) C dX3_mayBePaired_72 (i := (0 : Int)) (by decide) ?_
          obtain ⟨hp9, hw⟩ := hw
          refine aw_callV (pc := 73) (as := [vI (0 : Int)]) C ci4 (fun As hA => met_X4_text G l As b69 (0 : Int) _ _ hA hw) tw332 tw333 tw334 tw2 tw335 ⟨rfl, rfl⟩ ⟨rfl, by decide, by decide, pd_X4_text⟩ ⟨Nat.le_of_ble_eq_true rfl, Nat.le_of_ble_eq_true rfl⟩ ⟨Nat.zero_le _, Nat.zero_le _⟩ (Nat.le_of_ble_eq_true rfl) dX3_mayBePaired_73 rfl hp9 (fun v9 h73 hq9 => ?_)
          obtain ⟨r73, rfl, hw⟩ := hq9
          refine aw_iload_n (pc := 76) C dX3_mayBePaired_76 rfl rfl ?_
          obtain ⟨hp9, hw⟩ := hw
          refine aw_callV (pc := 77) (as := [vI a1]) C ci5 (fun As hA => met_X5_rowOf G l As r73 a1 _ _ hA hw) tw367 tw368 tw369 tw3 tw370 ⟨rfl, rfl⟩ ⟨rfl, by decide, by decide, pd_X5_rowOf⟩ ⟨Nat.le_of_ble_eq_true rfl, Nat.le_of_ble_eq_true rfl⟩ ⟨Nat.zero_le _, Nat.zero_le _⟩ (Nat.le_of_ble_eq_true rfl) dX3_mayBePaired_77 rfl hp9 (fun v9 h77 hq9 => ?_)
          obtain ⟨r77, rfl, hw⟩ := hq9
          refine aw_aload_n (pc := 80) C dX3_mayBePaired_80 rfl rfl ?_
          obtain ⟨hp9, b81, hb9, hw⟩ := hw
          refine aw_getR (pc := 81) C (ci := 3) (k := 5) ci3 (by decide) tw102 dX3_mayBePaired_81 rfl hp9 hb9 ?_
          refine aw_iconst (pc := 84) C dX3_mayBePaired_84 (i := (1 : Int)) (by decide) ?_
          obtain ⟨hp9, hw⟩ := hw
          refine aw_callV (pc := 85) (as := [vI (1 : Int)]) C ci4 (fun As hA => met_X4_text G l As b81 (1 : Int) _ _ hA hw) tw332 tw333 tw334 tw2 tw335 ⟨rfl, rfl⟩ ⟨rfl, by decide, by decide, pd_X4_text⟩ ⟨Nat.le_of_ble_eq_true rfl, Nat.le_of_ble_eq_true rfl⟩ ⟨Nat.zero_le _, Nat.zero_le _⟩ (Nat.le_of_ble_eq_true rfl) dX3_mayBePaired_85 rfl hp9 (fun v9 h85 hq9 => ?_)
          obtain ⟨r85, rfl, hw⟩ := hq9
          refine aw_iload_n (pc := 88) C dX3_mayBePaired_88 rfl rfl ?_
          obtain ⟨hp9, hw⟩ := hw
          refine aw_callV (pc := 89) (as := [vI a2]) C ci5 (fun As hA => met_X5_rowOf G l As r85 a2 _ _ hA hw) tw367 tw368 tw369 tw3 tw370 ⟨rfl, rfl⟩ ⟨rfl, by decide, by decide, pd_X5_rowOf⟩ ⟨Nat.le_of_ble_eq_true rfl, Nat.le_of_ble_eq_true rfl⟩ ⟨Nat.zero_le _, Nat.zero_le _⟩ (Nat.le_of_ble_eq_true rfl) dX3_mayBePaired_89 rfl hp9 (fun v9 h89 hq9 => ?_)
          obtain ⟨r89, rfl, hw⟩ := hq9
          refine aw_icmp_ne (pc := 92) (tgt := 99) C dX3_mayBePaired_92 (by decide) (fun hc9 => ?_) (fun hc9 => ?_)
          · have hw := hw.1 hc9
            refine aw_iconst (pc := 99) C dX3_mayBePaired_99 (i := (0 : Int)) (by decide) ?_
            refine aw_sub [] trivial ?_
            exact J_100 _ _ hw
          · have hw := hw.2 hc9
            refine aw_sub [] trivial ?_
            exact J_95  _ hw
      refine aw_icmp_ne (pc := 24) (tgt := 56) C dX3_mayBePaired_24 (by decide) (fun hc9 => ?_) (fun hc9 => ?_)
      · have hw := hw.1 hc9
        refine aw_sub [(0, vR a0), (1, vI a1), (2, vI a2)] ⟨rfl, rfl, rfl, trivial⟩ ?_
        exact J_56  _ hw
      · have hw := hw.2 hc9
        refine aw_aload_n (pc := 27) C dX3_mayBePaired_27 rfl rfl ?_
        obtain ⟨hp9, b28, hb9, hw⟩ := hw
        refine aw_getR (pc := 28) C (ci := 3) (k := 5) ci3 (by decide) tw102 dX3_mayBePaired_28 rfl hp9 hb9 ?_
        refine aw_iconst (pc := 31) C dX3_mayBePaired_31 (i := (0 : Int)) (by decide) ?_
        obtain ⟨hp9, hw⟩ := hw
        refine aw_callV (pc := 32) (as := [vI (0 : Int)]) C ci4 (fun As hA => met_X4_text G l As b28 (0 : Int) _ _ hA hw) tw332 tw333 tw334 tw2 tw335 ⟨rfl, rfl⟩ ⟨rfl, by decide, by decide, pd_X4_text⟩ ⟨Nat.le_of_ble_eq_true rfl, Nat.le_of_ble_eq_true rfl⟩ ⟨Nat.zero_le _, Nat.zero_le _⟩ (Nat.le_of_ble_eq_true rfl) dX3_mayBePaired_32 rfl hp9 (fun v9 h32 hq9 => ?_)
        obtain ⟨r32, rfl, hw⟩ := hq9
        refine aw_iload_n (pc := 35) C dX3_mayBePaired_35 rfl rfl ?_
        obtain ⟨hp9, hw⟩ := hw
        refine aw_callV (pc := 36) (as := [vI a1]) C ci5 (fun As hA => met_X5_codeOf G l As r32 a1 _ _ hA hw) tw344 tw345 tw346 tw3 tw347 ⟨rfl, rfl⟩ ⟨rfl, by decide, by decide, pd_X5_codeOf⟩ ⟨Nat.le_of_ble_eq_true rfl, Nat.le_of_ble_eq_true rfl⟩ ⟨Nat.zero_le _, Nat.zero_le _⟩ (Nat.le_of_ble_eq_true rfl) dX3_mayBePaired_36 rfl hp9 (fun v9 h36 hq9 => ?_)
        obtain ⟨r36, rfl, hw⟩ := hq9
        refine aw_aload_n (pc := 39) C dX3_mayBePaired_39 rfl rfl ?_
        obtain ⟨hp9, b40, hb9, hw⟩ := hw
        refine aw_getR (pc := 40) C (ci := 3) (k := 5) ci3 (by decide) tw102 dX3_mayBePaired_40 rfl hp9 hb9 ?_
        refine aw_iconst (pc := 43) C dX3_mayBePaired_43 (i := (1 : Int)) (by decide) ?_
        obtain ⟨hp9, hw⟩ := hw
        refine aw_callV (pc := 44) (as := [vI (1 : Int)]) C ci4 (fun As hA => met_X4_text G l As b40 (1 : Int) _ _ hA hw) tw332 tw333 tw334 tw2 tw335 ⟨rfl, rfl⟩ ⟨rfl, by decide, by decide, pd_X4_text⟩ ⟨Nat.le_of_ble_eq_true rfl, Nat.le_of_ble_eq_true rfl⟩ ⟨Nat.zero_le _, Nat.zero_le _⟩ (Nat.le_of_ble_eq_true rfl) dX3_mayBePaired_44 rfl hp9 (fun v9 h44 hq9 => ?_)
        obtain ⟨r44, rfl, hw⟩ := hq9
        refine aw_iload_n (pc := 47) C dX3_mayBePaired_47 rfl rfl ?_
        obtain ⟨hp9, hw⟩ := hw
        refine aw_callV (pc := 48) (as := [vI a2]) C ci5 (fun As hA => met_X5_codeOf G l As r44 a2 _ _ hA hw) tw344 tw345 tw346 tw3 tw347 ⟨rfl, rfl⟩ ⟨rfl, by decide, by decide, pd_X5_codeOf⟩ ⟨Nat.le_of_ble_eq_true rfl, Nat.le_of_ble_eq_true rfl⟩ ⟨Nat.zero_le _, Nat.zero_le _⟩ (Nat.le_of_ble_eq_true rfl) dX3_mayBePaired_48 rfl hp9 (fun v9 h48 hq9 => ?_)
        obtain ⟨r48, rfl, hw⟩ := hq9
        refine aw_icmp_eq (pc := 51) (tgt := 56) C dX3_mayBePaired_51 (by decide) (fun hc9 => ?_) (fun hc9 => ?_)
        · have hw := hw.1 hc9
          refine aw_sub [(0, vR a0), (1, vI a1), (2, vI a2)] ⟨rfl, rfl, rfl, trivial⟩ ?_
          exact J_56  _ hw
        · have hw := hw.2 hc9
          refine aw_iconst (pc := 54) C dX3_mayBePaired_54 (i := (0 : Int)) (by decide) ?_
          obtain ⟨hp9, hw⟩ := hw
          exact aw_zret (pc := 55) C hr dX3_mayBePaired_55 ⟨Nat.le_of_ble_eq_true rfl, Nat.le_of_ble_eq_true rfl⟩ hp9 ⟨_, rfl, hw⟩
    · have hw := hw.2 hc9
      refine aw_sub [] trivial ?_
      exact J_20  _ hw
theorem dX3_distance_0 : decode cX3_distance 0 = .ok (.aload_n 0, 1) := by decide +kernel
theorem dX3_distance_1 : decode cX3_distance 1 = .ok (.getfield 30, 3) := by decide +kernel
theorem dX3_distance_4 : decode cX3_distance 4 = .ok (.iconst 0, 1) := by decide +kernel
theorem dX3_distance_5 : decode cX3_distance 5 = .ok (.invokevirtual 49, 3) := by decide +kernel
theorem dX3_distance_8 : decode cX3_distance 8 = .ok (.iload_n 1, 1) := by decide +kernel
theorem dX3_distance_9 : decode cX3_distance 9 = .ok (.invokevirtual 53, 3) := by decide +kernel
theorem dX3_distance_12 : decode cX3_distance 12 = .ok (.aload_n 0, 1) := by decide +kernel
theorem dX3_distance_13 : decode cX3_distance 13 = .ok (.getfield 30, 3) := by decide +kernel
theorem dX3_distance_16 : decode cX3_distance 16 = .ok (.iconst 1, 1) := by decide +kernel
theorem dX3_distance_17 : decode cX3_distance 17 = .ok (.invokevirtual 49, 3) := by decide +kernel
theorem dX3_distance_20 : decode cX3_distance 20 = .ok (.iload_n 2, 1) := by decide +kernel
theorem dX3_distance_21 : decode cX3_distance 21 = .ok (.invokevirtual 53, 3) := by decide +kernel
theorem dX3_distance_24 : decode cX3_distance 24 = .ok (.isub, 1) := by decide +kernel
theorem dX3_distance_25 : decode cX3_distance 25 = .ok (.invokestatic 59, 3) := by decide +kernel
theorem dX3_distance_28 : decode cX3_distance 28 = .ok (.istore_n 3, 1) := by decide +kernel
theorem dX3_distance_29 : decode cX3_distance 29 = .ok (.aload_n 0, 1) := by decide +kernel
theorem dX3_distance_30 : decode cX3_distance 30 = .ok (.getfield 30, 3) := by decide +kernel
theorem dX3_distance_33 : decode cX3_distance 33 = .ok (.iconst 0, 1) := by decide +kernel
theorem dX3_distance_34 : decode cX3_distance 34 = .ok (.invokevirtual 49, 3) := by decide +kernel
theorem dX3_distance_37 : decode cX3_distance 37 = .ok (.iload_n 1, 1) := by decide +kernel
theorem dX3_distance_38 : decode cX3_distance 38 = .ok (.invokevirtual 64, 3) := by decide +kernel
theorem dX3_distance_41 : decode cX3_distance 41 = .ok (.aload_n 0, 1) := by decide +kernel
theorem dX3_distance_42 : decode cX3_distance 42 = .ok (.getfield 30, 3) := by decide +kernel
theorem dX3_distance_45 : decode cX3_distance 45 = .ok (.iconst 1, 1) := by decide +kernel
theorem dX3_distance_46 : decode cX3_distance 46 = .ok (.invokevirtual 49, 3) := by decide +kernel
theorem dX3_distance_49 : decode cX3_distance 49 = .ok (.iload_n 2, 1) := by decide +kernel
theorem dX3_distance_50 : decode cX3_distance 50 = .ok (.invokevirtual 64, 3) := by decide +kernel
theorem dX3_distance_53 : decode cX3_distance 53 = .ok (.isub, 1) := by decide +kernel
theorem dX3_distance_54 : decode cX3_distance 54 = .ok (.invokestatic 59, 3) := by decide +kernel
theorem dX3_distance_57 : decode cX3_distance 57 = .ok (.istore 4, 2) := by decide +kernel
theorem dX3_distance_59 : decode cX3_distance 59 = .ok (.iload_n 3, 1) := by decide +kernel
theorem dX3_distance_60 : decode cX3_distance 60 = .ok (.aload_n 0, 1) := by decide +kernel
theorem dX3_distance_61 : decode cX3_distance 61 = .ok (.getfield 30, 3) := by decide +kernel
theorem dX3_distance_64 : decode cX3_distance 64 = .ok (.getfield 40, 3) := by decide +kernel
theorem dX3_distance_67 : decode cX3_distance 67 = .ok (.iconst 0, 1) := by decide +kernel
theorem dX3_distance_68 : decode cX3_distance 68 = .ok (.iaload, 1) := by decide +kernel
theorem dX3_distance_69 : decode cX3_distance 69 = .ok (.iload 4, 2) := by decide +kernel
theorem dX3_distance_71 : decode cX3_distance 71 = .ok (.imul, 1) := by decide +kernel
theorem dX3_distance_72 : decode cX3_distance 72 = .ok (.iadd, 1) := by decide +kernel
theorem dX3_distance_73 : decode cX3_distance 73 = .ok (.ireturn, 1) := by decide +kernel
theorem pd_X3_distance : (parseMethodDescriptor yX3_distance.desc).map (fun d => d.parameters.length) = some 2 := by decide +kernel
def w_X3_distance (zz : Nat → Nat) (a0 : Nat) (a1 : Int) (a2 : Int) (h : AH) (Q : Int → AH → Prop) : Prop := okA h a0 3 ∧ ∃ b1 : Nat, hfR h a0 5 = some b1 ∧ okA h b1 4 ∧ w_X4_text zz b1 (0 : Int) h (fun (r5 : Nat) (h5 : AH) => okA h5 r5 5 ∧ w_X5_columnOf zz r5 a1 h5 (fun (r9 : Int) (h9 : AH) => okA h9 a0 3 ∧ ∃ b13 : Nat, hfR h9 a0 5 = some b13 ∧ okA h9 b13 4 ∧ w_X4_text zz b13 (1 : Int) h9 (fun (r17 : Nat) (h17 : AH) => okA h17 r17 5 ∧ w_X5_columnOf zz r17 a2 h17 (fun (r21 : Int) (h21 : AH) => inR (r9 - r21) ∧ inR (0 - (r9 - r21)) ∧ ∀ x3_28 : Int, x3_28 = (if 0 ≤ (r9 - r21) then (r9 - r21) else 0 - (r9 - r21)) → okA h21 a0 3 ∧ ∃ b30 : Nat, hfR h21 a0 5 = some b30 ∧ okA h21 b30 4 ∧ w_X4_text zz b30 (0 : Int) h21 (fun (r34 : Nat) (h34 : AH) => okA h34 r34 5 ∧ w_X5_rowOf zz r34 a1 h34 (fun (r38 : Int) (h38 : AH) => okA h38 a0 3 ∧ ∃ b42 : Nat, hfR h38 a0 5 = some b42 ∧ okA h38 b42 4 ∧ w_X4_text zz b42 (1 : Int) h38 (fun (r46 : Nat) (h46 : AH) => okA h46 r46 5 ∧ w_X5_rowOf zz r46 a2 h46 (fun (r50 : Int) (h50 : AH) => inR (r38 - r50) ∧ inR (0 - (r38 - r50)) ∧ ∀ x4_57 : Int, x4_57 = (if 0 ≤ (r38 - r50) then (r38 - r50) else 0 - (r38 - r50)) → okA h50 a0 3 ∧ ∃ b61 : Nat, hfR h50 a0 5 = some b61 ∧ okA h50 b61 4 ∧ ∃ b64 : Nat, hfR h50 b61 0 = some b64 ∧ okI h50 b64 (0 : Int) ∧ inR ((haI h50 b64 (0 : Int)) * x4_57) ∧ inR (x3_28 + ((haI h50 b64 (0 : Int)) * x4_57)) ∧ Q (x3_28 + ((haI h50 b64 (0 : Int)) * x4_57)) h50))))))))
set_option maxRecDepth 100000 in
set_option maxHeartbeats 4000000 in
theorem met_X3_distance (G : GG) (l : Launch) : ∀ (As : List Value) (a0 : Nat) (a1 : Int) (a2 : Int) (h : AH) (Q : Int → AH → Prop), As.map ab = List.map some ([vR a0, vI a1, vI a2] : List AV) → w_X3_distance G.2.2 a0 a1 a2 h Q → Met l yX3_distance (.code yX3_distance cX3_distance 5 (some .int) :: xTb) ({ frames := 1, cells := 0, slots := 0, locals := 21 } : Room) (PcA G As h) (QG G (oI Q)) 0 0 (frA G) := by
  intro As a0 a1 a2 h Q hA hw
  refine met_of hA (by decide) (Nat.le_of_ble_eq_true rfl) (fun p e s m args below meth c C hml hr hnm => ?_)
  unfold w_X3_distance at hw
  refine aw_aload_n (pc := 0) C dX3_distance_0 rfl rfl ?_
  obtain ⟨hp9, b1, hb9, hw⟩ := hw
  refine aw_getR (pc := 1) C (ci := 3) (k := 5) ci3 (by decide) tw102 dX3_distance_1 rfl hp9 hb9 ?_
  refine aw_iconst (pc := 4) C dX3_distance_4 (i := (0 : Int)) (by decide) ?_
  obtain ⟨hp9, hw⟩ := hw
  refine aw_callV (pc := 5) (as := [vI (0 : Int)]) C ci4 (fun As hA => met_X4_text G l As b1 (0 : Int) _ _ hA hw) tw332 tw333 tw334 tw2 tw335 ⟨rfl, rfl⟩ ⟨rfl, by decide, by decide, pd_X4_text⟩ ⟨Nat.le_of_ble_eq_true rfl, Nat.le_of_ble_eq_true rfl⟩ ⟨Nat.zero_le _, Nat.zero_le _⟩ (Nat.le_of_ble_eq_true rfl) dX3_distance_5 rfl hp9 (fun v9 h5 hq9 => ?_)
  obtain ⟨r5, rfl, hw⟩ := hq9
  refine aw_iload_n (pc := 8) C dX3_distance_8 rfl rfl ?_
  obtain ⟨hp9, hw⟩ := hw
  refine aw_callV (pc := 9) (as := [vI a1]) C ci5 (fun As hA => met_X5_columnOf G l As r5 a1 _ _ hA hw) tw375 tw376 tw377 tw3 tw378 ⟨rfl, rfl⟩ ⟨rfl, by decide, by decide, pd_X5_columnOf⟩ ⟨Nat.le_of_ble_eq_true rfl, Nat.le_of_ble_eq_true rfl⟩ ⟨Nat.zero_le _, Nat.zero_le _⟩ (Nat.le_of_ble_eq_true rfl) dX3_distance_9 rfl hp9 (fun v9 h9 hq9 => ?_)
  obtain ⟨r9, rfl, hw⟩ := hq9
  refine aw_aload_n (pc := 12) C dX3_distance_12 rfl rfl ?_
  obtain ⟨hp9, b13, hb9, hw⟩ := hw
  refine aw_getR (pc := 13) C (ci := 3) (k := 5) ci3 (by decide) tw102 dX3_distance_13 rfl hp9 hb9 ?_
  refine aw_iconst (pc := 16) C dX3_distance_16 (i := (1 : Int)) (by decide) ?_
  obtain ⟨hp9, hw⟩ := hw
  refine aw_callV (pc := 17) (as := [vI (1 : Int)]) C ci4 (fun As hA => met_X4_text G l As b13 (1 : Int) _ _ hA hw) tw332 tw333 tw334 tw2 tw335 ⟨rfl, rfl⟩ ⟨rfl, by decide, by decide, pd_X4_text⟩ ⟨Nat.le_of_ble_eq_true rfl, Nat.le_of_ble_eq_true rfl⟩ ⟨Nat.zero_le _, Nat.zero_le _⟩ (Nat.le_of_ble_eq_true rfl) dX3_distance_17 rfl hp9 (fun v9 h17 hq9 => ?_)
  obtain ⟨r17, rfl, hw⟩ := hq9
  refine aw_iload_n (pc := 20) C dX3_distance_20 rfl rfl ?_
  obtain ⟨hp9, hw⟩ := hw
  refine aw_callV (pc := 21) (as := [vI a2]) C ci5 (fun As hA => met_X5_columnOf G l As r17 a2 _ _ hA hw) tw375 tw376 tw377 tw3 tw378 ⟨rfl, rfl⟩ ⟨rfl, by decide, by decide, pd_X5_columnOf⟩ ⟨Nat.le_of_ble_eq_true rfl, Nat.le_of_ble_eq_true rfl⟩ ⟨Nat.zero_le _, Nat.zero_le _⟩ (Nat.le_of_ble_eq_true rfl) dX3_distance_21 rfl hp9 (fun v9 h21 hq9 => ?_)
  obtain ⟨r21, rfl, hw⟩ := hq9
  obtain ⟨hp9, hw⟩ := hw
  refine aw_isub (pc := 24) C dX3_distance_24 hp9 ?_
  obtain ⟨hp9, hw⟩ := hw
  refine aw_mabs (pc := 25) C tw379 tw380 tw10 tw381 ⟨Nat.le_of_ble_eq_true rfl, Nat.le_of_ble_eq_true rfl, Nat.zero_le _, Nat.zero_le _⟩ (Nat.le_of_ble_eq_true rfl) dX3_distance_25 hp9 ?_
  refine aw_nmI (fun x3_28 e9 => ?_)
  have hw := hw x3_28 e9
  refine aw_istore_n (pc := 28) C dX3_distance_28 rfl (by rw [hml]; decide) ?_
  refine aw_aload_n (pc := 29) C dX3_distance_29 rfl rfl ?_
  obtain ⟨hp9, b30, hb9, hw⟩ := hw
  refine aw_getR (pc := 30) C (ci := 3) (k := 5) ci3 (by decide) tw102 dX3_distance_30 rfl hp9 hb9 ?_
  refine aw_iconst (pc := 33) C dX3_distance_33 (i := (0 : Int)) (by decide) ?_
  obtain ⟨hp9, hw⟩ := hw
  refine aw_callV (pc := 34) (as := [vI (0 : Int)]) C ci4 (fun As hA => met_X4_text G l As b30 (0 : Int) _ _ hA hw) tw332 tw333 tw334 tw2 tw335 ⟨rfl, rfl⟩ ⟨rfl, by decide, by decide, pd_X4_text⟩ ⟨Nat.le_of_ble_eq_true rfl, Nat.le_of_ble_eq_true rfl⟩ ⟨Nat.zero_le _, Nat.zero_le _⟩ (Nat.le_of_ble_eq_true rfl) dX3_distance_34 rfl hp9 (fun v9 h34 hq9 => ?_)
  obtain ⟨r34, rfl, hw⟩ := hq9
  refine aw_iload_n (pc := 37) C dX3_distance_37 rfl rfl ?_
  obtain ⟨hp9, hw⟩ := hw
  refine aw_callV (pc := 38) (as := [vI a1]) C ci5 (fun As hA => met_X5_rowOf G l As r34 a1 _ _ hA hw) tw367 tw368 tw369 tw3 tw370 ⟨rfl, rfl⟩ ⟨rfl, by decide, by decide, pd_X5_rowOf⟩ ⟨Nat.le_of_ble_eq_true rfl, Nat.le_of_ble_eq_true rfl⟩ ⟨Nat.zero_le _, Nat.zero_le _⟩ (Nat.le_of_ble_eq_true rfl) dX3_distance_38 rfl hp9 (fun v9 h38 hq9 => ?_)
  obtain ⟨r38, rfl, hw⟩ := hq9
  refine aw_aload_n (pc := 41) C dX3_distance_41 rfl rfl ?_
  obtain ⟨hp9, b42, hb9, hw⟩ := hw
  refine aw_getR (pc := 42) C (ci := 3) (k := 5) ci3 (by decide) tw102 dX3_distance_42 rfl hp9 hb9 ?_
  refine aw_iconst (pc := 45) C dX3_distance_45 (i := (1 : Int)) (by decide) ?_
  obtain ⟨hp9, hw⟩ := hw
  refine aw_callV (pc := 46) (as := [vI (1 : Int)]) C ci4 (fun As hA => met_X4_text G l As b42 (1 : Int) _ _ hA hw) tw332 tw333 tw334 tw2 tw335 ⟨rfl, rfl⟩ ⟨rfl, by decide, by decide, pd_X4_text⟩ ⟨Nat.le_of_ble_eq_true rfl, Nat.le_of_ble_eq_true rfl⟩ ⟨Nat.zero_le _, Nat.zero_le _⟩ (Nat.le_of_ble_eq_true rfl) dX3_distance_46 rfl hp9 (fun v9 h46 hq9 => ?_)
  obtain ⟨r46, rfl, hw⟩ := hq9
  refine aw_iload_n (pc := 49) C dX3_distance_49 rfl rfl ?_
  obtain ⟨hp9, hw⟩ := hw
  refine aw_callV (pc := 50) (as := [vI a2]) C ci5 (fun As hA => met_X5_rowOf G l As r46 a2 _ _ hA hw) tw367 tw368 tw369 tw3 tw370 ⟨rfl, rfl⟩ ⟨rfl, by decide, by decide, pd_X5_rowOf⟩ ⟨Nat.le_of_ble_eq_true rfl, Nat.le_of_ble_eq_true rfl⟩ ⟨Nat.zero_le _, Nat.zero_le _⟩ (Nat.le_of_ble_eq_true rfl) dX3_distance_50 rfl hp9 (fun v9 h50 hq9 => ?_)
  obtain ⟨r50, rfl, hw⟩ := hq9
  obtain ⟨hp9, hw⟩ := hw
  refine aw_isub (pc := 53) C dX3_distance_53 hp9 ?_
  obtain ⟨hp9, hw⟩ := hw
  refine aw_mabs (pc := 54) C tw379 tw380 tw10 tw381 ⟨Nat.le_of_ble_eq_true rfl, Nat.le_of_ble_eq_true rfl, Nat.zero_le _, Nat.zero_le _⟩ (Nat.le_of_ble_eq_true rfl) dX3_distance_54 hp9 ?_
  refine aw_nmI (fun x4_57 e9 => ?_)
  have hw := hw x4_57 e9
  refine aw_istore (pc := 57) C dX3_distance_57 (by rw [hml]; decide) ?_
  refine aw_iload_n (pc := 59) C dX3_distance_59 rfl rfl ?_
  refine aw_aload_n (pc := 60) C dX3_distance_60 rfl rfl ?_
  obtain ⟨hp9, b61, hb9, hw⟩ := hw
  refine aw_getR (pc := 61) C (ci := 3) (k := 5) ci3 (by decide) tw102 dX3_distance_61 rfl hp9 hb9 ?_
  obtain ⟨hp9, b64, hb9, hw⟩ := hw
  refine aw_getR (pc := 64) C (ci := 4) (k := 0) ci4 (by decide) tw65 dX3_distance_64 rfl hp9 hb9 ?_
  refine aw_iconst (pc := 67) C dX3_distance_67 (i := (0 : Int)) (by decide) ?_
  obtain ⟨⟨k9, hp9⟩, hw⟩ := hw
  refine aw_iald (pc := 68) C dX3_distance_68 hp9 ?_
  refine aw_iload (pc := 69) C dX3_distance_69 rfl ?_
  obtain ⟨hp9, hw⟩ := hw
  refine aw_imul (pc := 71) C dX3_distance_71 hp9 ?_
  obtain ⟨hp9, hw⟩ := hw
  refine aw_iadd (pc := 72) C dX3_distance_72 hp9 ?_
  exact aw_iret (pc := 73) C hr dX3_distance_73 ⟨Nat.le_of_ble_eq_true rfl, Nat.le_of_ble_eq_true rfl⟩ ⟨_, rfl, hw⟩
theorem dX3_pairNearest_0 : decode cX3_pairNearest 0 = .ok (.iconst (-1), 1) := by decide +kernel
theorem dX3_pairNearest_1 : decode cX3_pairNearest 1 = .ok (.istore_n 3, 1) := by decide +kernel
theorem dX3_pairNearest_2 : decode cX3_pairNearest 2 = .ok (.iconst (-1), 1) := by decide +kernel
theorem dX3_pairNearest_3 : decode cX3_pairNearest 3 = .ok (.istore 4, 2) := by decide +kernel
theorem dX3_pairNearest_5 : decode cX3_pairNearest 5 = .ok (.iload_n 2, 1) := by decide +kernel
theorem dX3_pairNearest_6 : decode cX3_pairNearest 6 = .ok (.iconst 1, 1) := by decide +kernel
theorem dX3_pairNearest_7 : decode cX3_pairNearest 7 = .ok (.iadd, 1) := by decide +kernel
theorem dX3_pairNearest_8 : decode cX3_pairNearest 8 = .ok (.istore 5, 2) := by decide +kernel
theorem dX3_pairNearest_10 : decode cX3_pairNearest 10 = .ok (.iconst 0, 1) := by decide +kernel
theorem dX3_pairNearest_11 : decode cX3_pairNearest 11 = .ok (.istore 6, 2) := by decide +kernel
theorem dX3_pairNearest_13 : decode cX3_pairNearest 13 = .ok (.iload 6, 2) := by decide +kernel
theorem dX3_pairNearest_15 : decode cX3_pairNearest 15 = .ok (.aload_n 0, 1) := by decide +kernel
theorem dX3_pairNearest_16 : decode cX3_pairNearest 16 = .ok (.getfield 30, 3) := by decide +kernel
theorem dX3_pairNearest_19 : decode cX3_pairNearest 19 = .ok (.iconst 0, 1) := by decide +kernel
theorem dX3_pairNearest_20 : decode cX3_pairNearest 20 = .ok (.invokevirtual 49, 3) := by decide +kernel
theorem dX3_pairNearest_23 : decode cX3_pairNearest 23 = .ok (.getfield 73, 3) := by decide +kernel
theorem dX3_pairNearest_26 : decode cX3_pairNearest 26 = .ok (.if_icmp .ge 76, 3) := by decide +kernel
theorem dX3_pairNearest_29 : decode cX3_pairNearest 29 = .ok (.iconst 0, 1) := by decide +kernel
theorem dX3_pairNearest_30 : decode cX3_pairNearest 30 = .ok (.istore 7, 2) := by decide +kernel
theorem dX3_pairNearest_32 : decode cX3_pairNearest 32 = .ok (.iload 7, 2) := by decide +kernel
theorem dX3_pairNearest_34 : decode cX3_pairNearest 34 = .ok (.aload_n 0, 1) := by decide +kernel
theorem dX3_pairNearest_35 : decode cX3_pairNearest 35 = .ok (.getfield 30, 3) := by decide +kernel
theorem dX3_pairNearest_38 : decode cX3_pairNearest 38 = .ok (.iconst 1, 1) := by decide +kernel
theorem dX3_pairNearest_39 : decode cX3_pairNearest 39 = .ok (.invokevirtual 49, 3) := by decide +kernel
theorem dX3_pairNearest_42 : decode cX3_pairNearest 42 = .ok (.getfield 73, 3) := by decide +kernel
theorem dX3_pairNearest_45 : decode cX3_pairNearest 45 = .ok (.if_icmp .ge 51, 3) := by decide +kernel
theorem dX3_pairNearest_48 : decode cX3_pairNearest 48 = .ok (.aload_n 0, 1) := by decide +kernel
theorem dX3_pairNearest_49 : decode cX3_pairNearest 49 = .ok (.iload 6, 2) := by decide +kernel
theorem dX3_pairNearest_51 : decode cX3_pairNearest 51 = .ok (.iload 7, 2) := by decide +kernel
theorem dX3_pairNearest_53 : decode cX3_pairNearest 53 = .ok (.iload_n 1, 1) := by decide +kernel
theorem dX3_pairNearest_54 : decode cX3_pairNearest 54 = .ok (.invokevirtual 95, 3) := by decide +kernel
theorem dX3_pairNearest_57 : decode cX3_pairNearest 57 = .ok (.ifCond .eq 33, 3) := by decide +kernel
theorem dX3_pairNearest_60 : decode cX3_pairNearest 60 = .ok (.aload_n 0, 1) := by decide +kernel
theorem dX3_pairNearest_61 : decode cX3_pairNearest 61 = .ok (.iload 6, 2) := by decide +kernel
theorem dX3_pairNearest_63 : decode cX3_pairNearest 63 = .ok (.iload 7, 2) := by decide +kernel
theorem dX3_pairNearest_65 : decode cX3_pairNearest 65 = .ok (.invokevirtual 99, 3) := by decide +kernel
theorem dX3_pairNearest_68 : decode cX3_pairNearest 68 = .ok (.iload 5, 2) := by decide +kernel
theorem dX3_pairNearest_70 : decode cX3_pairNearest 70 = .ok (.if_icmp .ge 20, 3) := by decide +kernel
theorem dX3_pairNearest_73 : decode cX3_pairNearest 73 = .ok (.aload_n 0, 1) := by decide +kernel
theorem dX3_pairNearest_74 : decode cX3_pairNearest 74 = .ok (.iload 6, 2) := by decide +kernel
theorem dX3_pairNearest_76 : decode cX3_pairNearest 76 = .ok (.iload 7, 2) := by decide +kernel
theorem dX3_pairNearest_78 : decode cX3_pairNearest 78 = .ok (.invokevirtual 99, 3) := by decide +kernel
theorem dX3_pairNearest_81 : decode cX3_pairNearest 81 = .ok (.istore 5, 2) := by decide +kernel
theorem dX3_pairNearest_83 : decode cX3_pairNearest 83 = .ok (.iload 6, 2) := by decide +kernel
theorem dX3_pairNearest_85 : decode cX3_pairNearest 85 = .ok (.istore_n 3, 1) := by decide +kernel
theorem dX3_pairNearest_86 : decode cX3_pairNearest 86 = .ok (.iload 7, 2) := by decide +kernel
theorem dX3_pairNearest_88 : decode cX3_pairNearest 88 = .ok (.istore 4, 2) := by decide +kernel
theorem dX3_pairNearest_90 : decode cX3_pairNearest 90 = .ok (.iinc 7 1, 3) := by decide +kernel
theorem dX3_pairNearest_93 : decode cX3_pairNearest 93 = .ok (.goto (-61), 3) := by decide +kernel
theorem dX3_pairNearest_96 : decode cX3_pairNearest 96 = .ok (.iinc 6 1, 3) := by decide +kernel
theorem dX3_pairNearest_99 : decode cX3_pairNearest 99 = .ok (.goto (-86), 3) := by decide +kernel
theorem dX3_pairNearest_102 : decode cX3_pairNearest 102 = .ok (.iload_n 3, 1) := by decide +kernel
theorem dX3_pairNearest_103 : decode cX3_pairNearest 103 = .ok (.iconst (-1), 1) := by decide +kernel
theorem dX3_pairNearest_104 : decode cX3_pairNearest 104 = .ok (.if_icmp .eq 9, 3) := by decide +kernel
theorem dX3_pairNearest_107 : decode cX3_pairNearest 107 = .ok (.iload 4, 2) := by decide +kernel
theorem dX3_pairNearest_109 : decode cX3_pairNearest 109 = .ok (.iconst (-1), 1) := by decide +kernel
theorem dX3_pairNearest_110 : decode cX3_pairNearest 110 = .ok (.if_icmp .ne 5, 3) := by decide +kernel
theorem dX3_pairNearest_113 : decode cX3_pairNearest 113 = .ok (.iconst 0, 1) := by decide +kernel
theorem dX3_pairNearest_114 : decode cX3_pairNearest 114 = .ok (.ireturn, 1) := by decide +kernel
theorem dX3_pairNearest_115 : decode cX3_pairNearest 115 = .ok (.aload_n 0, 1) := by decide +kernel
theorem dX3_pairNearest_116 : decode cX3_pairNearest 116 = .ok (.iload_n 3, 1) := by decide +kernel
theorem dX3_pairNearest_117 : decode cX3_pairNearest 117 = .ok (.iload 4, 2) := by decide +kernel
theorem dX3_pairNearest_119 : decode cX3_pairNearest 119 = .ok (.iload_n 1, 1) := by decide +kernel
theorem dX3_pairNearest_120 : decode cX3_pairNearest 120 = .ok (.invokevirtual 84, 3) := by decide +kernel
theorem dX3_pairNearest_123 : decode cX3_pairNearest 123 = .ok (.iconst 1, 1) := by decide +kernel
theorem dX3_pairNearest_124 : decode cX3_pairNearest 124 = .ok (.ireturn, 1) := by decide +kernel
theorem pd_X3_pairNearest : (parseMethodDescriptor yX3_pairNearest.desc).map (fun d => d.parameters.length) = some 2 := by decide +kernel
def w_X3_pairNearest (zz : Nat → Nat) (a0 : Nat) (a1 : Int) (a2 : Int) (h : AH) (Q : Int → AH → Prop) : Prop := inR (a2 + (1 : Int)) ∧ ∀ x5_8 : Int, x5_8 = (a2 + (1 : Int)) → ∃ I_13 : Nat → Int → Int → Int → Int → AH → Prop, (∃ n, I_13 n (-1 : Int) (-1 : Int) x5_8 (0 : Int) h) ∧ ∀ (n_13 : Nat) (x3_13 : Int) (x4_13 : Int) (x5_13 : Int) (x6_13 : Int) (h_13 : AH), I_13 n_13 x3_13 x4_13 x5_13 x6_13 h_13 → (okA h_13 a0 3 ∧ ∃ b16 : Nat, hfR h_13 a0 5 = some b16 ∧ okA h_13 b16 4 ∧ w_X4_text zz b16 (0 : Int) h_13 (fun (r20 : Nat) (h20 : AH) => okA h20 r20 5 ∧ (((hfI h20 r20 2) ≤ x6_13) → jn (fun  (h_113 : AH) => ((0 : Int) = 0 ∨ (0 : Int) = 1) ∧ Q (0 : Int) h_113) (fun k_113 : AH → Prop => ((x3_13 = (-1 : Int)) → k_113  h20) ∧ ((¬ (x3_13 = (-1 : Int))) → ((¬ x4_13 = (-1 : Int)) → okA h20 a0 3 ∧ w_X3_pair zz a0 x3_13 x4_13 a1 h20 (fun  (h120 : AH) => ((1 : Int) = 0 ∨ (1 : Int) = 1) ∧ Q (1 : Int) h120)) ∧ ((x4_13 = (-1 : Int)) → k_113  h20)))) ∧ ((¬ ((hfI h20 r20 2) ≤ x6_13)) → ∃ I_32 : Nat → Int → Int → Int → Int → AH → Prop, (∃ n, I_32 n x3_13 x4_13 x5_13 (0 : Int) h20) ∧ ∀ (n_32 : Nat) (x3_32 : Int) (x4_32 : Int) (x5_32 : Int) (x7_32 : Int) (h_32 : AH), I_32 n_32 x3_32 x4_32 x5_32 x7_32 h_32 → (okA h_32 a0 3 ∧ ∃ b35 : Nat, hfR h_32 a0 5 = some b35 ∧ okA h_32 b35 4 ∧ w_X4_text zz b35 (1 : Int) h_32 (fun (r39 : Nat) (h39 : AH) => okA h39 r39 5 ∧ (((hfI h39 r39 2) ≤ x7_32) → inR (x6_13 + 1) ∧ ∀ x6_96 : Int, x6_96 = (x6_13 + 1) → ∃ m, m < n_13 ∧ I_13 m x3_32 x4_32 x5_32 x6_96 h39) ∧ ((¬ ((hfI h39 r39 2) ≤ x7_32)) → okA h39 a0 3 ∧ w_X3_mayBePaired zz a0 x6_13 x7_32 a1 h39 (fun (r54 : Int) (h54 : AH) => jn (fun (x3_90 : Int) (x4_90 : Int) (x5_90 : Int) (h_90 : AH) => inR (x7_32 + 1) ∧ ∀ x7_90 : Int, x7_90 = (x7_32 + 1) → ∃ m, m < n_32 ∧ I_32 m x3_90 x4_90 x5_90 x7_90 h_90) (fun k_90 : Int → Int → Int → AH → Prop => ((r54 = 0) → k_90 x3_32 x4_32 x5_32 h54) ∧ ((¬ (r54 = 0)) → okA h54 a0 3 ∧ w_X3_distance zz a0 x6_13 x7_32 h54 (fun (r65 : Int) (h65 : AH) => ((x5_32 ≤ r65) → k_90 x3_32 x4_32 x5_32 h65) ∧ ((¬ (x5_32 ≤ r65)) → okA h65 a0 3 ∧ w_X3_distance zz a0 x6_13 x7_32 h65 (fun (r78 : Int) (h78 : AH) => k_90 x6_13 x7_32 r78 h78))))))))))))
set_option maxRecDepth 100000 in
set_option maxHeartbeats 4000000 in
theorem met_X3_pairNearest (G : GG) (l : Launch) : ∀ (As : List Value) (a0 : Nat) (a1 : Int) (a2 : Int) (h : AH) (Q : Int → AH → Prop), As.map ab = List.map some ([vR a0, vI a1, vI a2] : List AV) → w_X3_pairNearest G.2.2 a0 a1 a2 h Q → Met l yX3_pairNearest (.code yX3_pairNearest cX3_pairNearest 8 (some .boolean) :: xTb) ({ frames := 2, cells := 0, slots := 0, locals := 45 } : Room) (PcA G As h) (QG G (oI Q)) 0 0 (frA G) := by
  intro As a0 a1 a2 h Q hA hw
  refine met_of hA (by decide) (Nat.le_of_ble_eq_true rfl) (fun p e s m args below meth c C hml hr hnm => ?_)
  unfold w_X3_pairNearest at hw
  refine aw_iconst (pc := 0) C dX3_pairNearest_0 (i := (-1 : Int)) (by decide) ?_
  refine aw_istore_n (pc := 1) C dX3_pairNearest_1 rfl (by rw [hml]; decide) ?_
  refine aw_iconst (pc := 2) C dX3_pairNearest_2 (i := (-1 : Int)) (by decide) ?_
  refine aw_istore (pc := 3) C dX3_pairNearest_3 (by rw [hml]; decide) ?_
  refine aw_iload_n (pc := 5) C dX3_pairNearest_5 rfl rfl ?_
  refine aw_iconst (pc := 6) C dX3_pairNearest_6 (i := (1 : Int)) (by decide) ?_
  obtain ⟨hp9, hw⟩ := hw
  refine aw_iadd (pc := 7) C dX3_pairNearest_7 hp9 ?_
  refine aw_nmI (fun x5_8 e9 => ?_)
  have hw := hw x5_8 e9
  refine aw_istore (pc := 8) C dX3_pairNearest_8 (by rw [hml]; decide) ?_
  refine aw_iconst (pc := 10) C dX3_pairNearest_10 (i := (0 : Int)) (by decide) ?_
  refine aw_istore (pc := 11) C dX3_pairNearest_11 (by rw [hml]; decide) ?_
  obtain ⟨I_13, ⟨n9, hi9⟩, hst9⟩ := hw
  have L_13 : ∀ (n_13 : Nat) (x3_13 : Int) (x4_13 : Int) (x5_13 : Int) (x6_13 : Int) (h_13 : AH), I_13 n_13 x3_13 x4_13 x5_13 x6_13 h_13 → AW G p l e ({ frames := 2, cells := 0, slots := 0, locals := 45 } : Room) s m args below meth c 0 0 (MQ below (QG G (oI Q)) args s 0 0 (frA G)) 13 (eOf [(0, vR a0), (1, vI a1), (3, vI x3_13), (4, vI x4_13), (5, vI x5_13), (6, vI x6_13)]) [] h_13 := by
    intro n_13
    induction n_13 using Nat.strongRecOn with
    | _ n_13 ih_13 =>
    intro x3_13 x4_13 x5_13 x6_13 h_13 hi9
    have hw := hst9 n_13 x3_13 x4_13 x5_13 x6_13 h_13 hi9
    refine aw_iload (pc := 13) C dX3_pairNearest_13 rfl ?_
    refine aw_aload_n (pc := 15) C dX3_pairNearest_15 rfl rfl ?_
    obtain ⟨hp9, b16, hb9, hw⟩ := hw
    refine aw_getR (pc := 16) C (ci := 3) (k := 5) ci3 (by decide) tw102 dX3_pairNearest_16 rfl hp9 hb9 ?_
    refine aw_iconst (pc := 19) C dX3_pairNearest_19 (i := (0 : Int)) (by decide) ?_
    obtain ⟨hp9, hw⟩ := hw
    refine aw_callV (pc := 20) (as := [vI (0 : Int)]) C ci4 (fun As hA => met_X4_text G l As b16 (0 : Int) _ _ hA hw) tw332 tw333 tw334 tw2 tw335 ⟨rfl, rfl⟩ ⟨rfl, by decide, by decide, pd_X4_text⟩ ⟨Nat.le_of_ble_eq_true rfl, Nat.le_of_ble_eq_true rfl⟩ ⟨Nat.zero_le _, Nat.zero_le _⟩ (Nat.le_of_ble_eq_true rfl) dX3_pairNearest_20 rfl hp9 (fun v9 h20 hq9 => ?_)
    obtain ⟨r20, rfl, hw⟩ := hq9
    obtain ⟨hp9, hw⟩ := hw
    refine aw_getI (pc := 23) C (ci := 5) (k := 2) ci5 (by decide) tw48 dX3_pairNearest_23 rfl hp9 ?_
    refine aw_icmp_ge (pc := 26) (tgt := 102) C dX3_pairNearest_26 (by decide) (fun hc9 => ?_) (fun hc9 => ?_)
    · have hw := hw.1 hc9
      refine aw_iload_n (pc := 102) C dX3_pairNearest_102 rfl rfl ?_
      refine aw_iconst (pc := 103) C dX3_pairNearest_103 (i := (-1 : Int)) (by decide) ?_
      obtain ⟨k_113, hk_113, hw⟩ := jn_out hw
      have J_113 : ∀  (h_113 : AH), k_113  h_113 → AW G p l e ({ frames := 2, cells := 0, slots := 0, locals := 45 } : Room) s m args below meth c 0 0 (MQ below (QG G (oI Q)) args s 0 0 (frA G)) 113 (eOf []) [] h_113 := by
        intro  h_113 hw
        rw [hk_113] at hw
        refine aw_iconst (pc := 113) C dX3_pairNearest_113 (i := (0 : Int)) (by decide) ?_
        obtain ⟨hp9, hw⟩ := hw
        exact aw_zret (pc := 114) C hr dX3_pairNearest_114 ⟨Nat.le_of_ble_eq_true rfl, Nat.le_of_ble_eq_true rfl⟩ hp9 ⟨_, rfl, hw⟩
      refine aw_icmp_eq (pc := 104) (tgt := 113) C dX3_pairNearest_104 (by decide) (fun hc9 => ?_) (fun hc9 => ?_)
      · have hw := hw.1 hc9
        refine aw_sub [] trivial ?_
        exact J_113  _ hw
      · have hw := hw.2 hc9
        refine aw_iload (pc := 107) C dX3_pairNearest_107 rfl ?_
        refine aw_iconst (pc := 109) C dX3_pairNearest_109 (i := (-1 : Int)) (by decide) ?_
        refine aw_icmp_ne (pc := 110) (tgt := 115) C dX3_pairNearest_110 (by decide) (fun hc9 => ?_) (fun hc9 => ?_)
        · have hw := hw.1 hc9
          refine aw_aload_n (pc := 115) C dX3_pairNearest_115 rfl rfl ?_
          refine aw_iload_n (pc := 116) C dX3_pairNearest_116 rfl rfl ?_
          refine aw_iload (pc := 117) C dX3_pairNearest_117 rfl ?_
          refine aw_iload_n (pc := 119) C dX3_pairNearest_119 rfl rfl ?_
          obtain ⟨hp9, hw⟩ := hw
          refine aw_callV (pc := 120) (as := [vI x3_13, vI x4_13, vI a1]) C ci3 (fun As hA => met_X3_pair G l As a0 x3_13 x4_13 a1 _ _ hA hw) tw355 tw357 (tbp 6 (n := 7) (by decide +kernel)) tw7 tw358 ⟨rfl, rfl⟩ ⟨rfl, by decide, by decide, pd_X3_pair⟩ ⟨Nat.le_of_ble_eq_true rfl, Nat.le_of_ble_eq_true rfl⟩ ⟨Nat.zero_le _, Nat.zero_le _⟩ (Nat.le_of_ble_eq_true rfl) dX3_pairNearest_120 rfl hp9 (fun v9 h120 hq9 => ?_)
          obtain ⟨rfl, hw⟩ := hq9
          refine aw_iconst (pc := 123) C dX3_pairNearest_123 (i := (1 : Int)) (by decide) ?_
          obtain ⟨hp9, hw⟩ := hw
          exact aw_zret (pc := 124) C hr dX3_pairNearest_124 ⟨Nat.le_of_ble_eq_true rfl, Nat.le_of_ble_eq_true rfl⟩ hp9 ⟨_, rfl, hw⟩
        · have hw := hw.2 hc9
          refine aw_sub [] trivial ?_
          exact J_113  _ hw
    · have hw := hw.2 hc9
      refine aw_iconst (pc := 29) C dX3_pairNearest_29 (i := (0 : Int)) (by decide) ?_
      refine aw_istore (pc := 30) C dX3_pairNearest_30 (by rw [hml]; decide) ?_
      obtain ⟨I_32, ⟨n9, hi9⟩, hst9⟩ := hw
      have L_32 : ∀ (n_32 : Nat) (x3_32 : Int) (x4_32 : Int) (x5_32 : Int) (x7_32 : Int) (h_32 : AH), I_32 n_32 x3_32 x4_32 x5_32 x7_32 h_32 → AW G p l e ({ frames := 2, cells := 0, slots := 0, locals := 45 } : Room) s m args below meth c 0 0 (MQ below (QG G (oI Q)) args s 0 0 (frA G)) 32 (eOf [(0, vR a0), (1, vI a1), (3, vI x3_32), (4, vI x4_32), (5, vI x5_32), (6, vI x6_13), (7, vI x7_32)]) [] h_32 := by
        intro n_32
        induction n_32 using Nat.strongRecOn with
        | _ n_32 ih_32 =>
        intro x3_32 x4_32 x5_32 x7_32 h_32 hi9
        have hw := hst9 n_32 x3_32 x4_32 x5_32 x7_32 h_32 hi9
        refine aw_iload (pc := 32) C dX3_pairNearest_32 rfl ?_
        refine aw_aload_n (pc := 34) C dX3_pairNearest_34 rfl rfl ?_
        obtain ⟨hp9, b35, hb9, hw⟩ := hw
        refine aw_getR (pc := 35) C (ci := 3) (k := 5) ci3 (by decide) tw102 dX3_pairNearest_35 rfl hp9 hb9 ?_
        refine aw_iconst (pc := 38) C dX3_pairNearest_38 (i := (1 : Int)) (by decide) ?_
        obtain ⟨hp9, hw⟩ := hw
        refine aw_callV (pc := 39) (as := [vI (1 : Int)]) C ci4 (fun As hA => met_X4_text G l As b35 (1 : Int) _ _ hA hw) tw332 tw333 tw334 tw2 tw335 ⟨rfl, rfl⟩ ⟨rfl, by decide, by decide, pd_X4_text⟩ ⟨Nat.le_of_ble_eq_true rfl, Nat.le_of_ble_eq_true rfl⟩ ⟨Nat.zero_le _, Nat.zero_le _⟩ (Nat.le_of_ble_eq_true rfl) dX3_pairNearest_39 rfl hp9 (fun v9 h39 hq9 => ?_)
        obtain ⟨r39, rfl, hw⟩ := hq9
        obtain ⟨hp9, hw⟩ := hw
        refine aw_getI (pc := 42) C (ci := 5) (k := 2) ci5 (by decide) tw48 dX3_pairNearest_42 rfl hp9 ?_
        refine aw_icmp_ge (pc := 45) (tgt := 96) C dX3_pairNearest_45 (by decide) (fun hc9 => ?_) (fun hc9 => ?_)
        · have hw := hw.1 hc9
          obtain ⟨hp9, hw⟩ := hw
          refine aw_iincN (pc := 96) C dX3_pairNearest_96 (k := 1) (by decide) rfl (by rw [hml]; decide) hp9 (fun x6_96 e9 => ?_)
          have hw := hw x6_96 e9
          refine aw_goto (pc := 99) (tgt := 13) C dX3_pairNearest_99 (by decide) ?_
          obtain ⟨m9, hm9, hw⟩ := hw
          refine aw_sub [(0, vR a0), (1, vI a1), (3, vI x3_32), (4, vI x4_32), (5, vI x5_32), (6, vI x6_96)] ⟨rfl, rfl, rfl, rfl, rfl, rfl, trivial⟩ ?_
          exact ih_13 m9 hm9 _ _ _ _ _ hw
        · have hw := hw.2 hc9
          refine aw_aload_n (pc := 48) C dX3_pairNearest_48 rfl rfl ?_
          refine aw_iload (pc := 49) C dX3_pairNearest_49 rfl ?_
          refine aw_iload (pc := 51) C dX3_pairNearest_51 rfl ?_
          refine aw_iload_n (pc := 53) C dX3_pairNearest_53 rfl rfl ?_
          obtain ⟨hp9, hw⟩ := hw
          refine aw_callV (pc := 54) (as := [vI x6_13, vI x7_32, vI a1]) C ci3 (fun As hA => met_X3_mayBePaired G l As a0 x6_13 x7_32 a1 _ _ hA hw) tw363 tw365 (tbp 8 (n := 7) (by decide +kernel)) tw7 tw366 ⟨rfl, rfl⟩ ⟨rfl, by decide, by decide, pd_X3_mayBePaired⟩ ⟨Nat.le_of_ble_eq_true rfl, Nat.le_of_ble_eq_true rfl⟩ ⟨Nat.zero_le _, Nat.zero_le _⟩ (Nat.le_of_ble_eq_true rfl) dX3_pairNearest_54 rfl hp9 (fun v9 h54 hq9 => ?_)
          obtain ⟨r54, rfl, hw⟩ := hq9
          obtain ⟨k_90, hk_90, hw⟩ := jn_out hw
          have J_90 : ∀ (x3_90 : Int) (x4_90 : Int) (x5_90 : Int) (h_90 : AH), k_90 x3_90 x4_90 x5_90 h_90 → AW G p l e ({ frames := 2, cells := 0, slots := 0, locals := 45 } : Room) s m args below meth c 0 0 (MQ below (QG G (oI Q)) args s 0 0 (frA G)) 90 (eOf [(0, vR a0), (1, vI a1), (3, vI x3_90), (4, vI x4_90), (5, vI x5_90), (6, vI x6_13), (7, vI x7_32)]) [] h_90 := by
            intro x3_90 x4_90 x5_90 h_90 hw
            rw [hk_90] at hw
            obtain ⟨hp9, hw⟩ := hw
            refine aw_iincN (pc := 90) C dX3_pairNearest_90 (k := 1) (by decide) rfl (by rw [hml]; decide) hp9 (fun x7_90 e9 => ?_)
            have hw := hw x7_90 e9
            refine aw_goto (pc := 93) (tgt := 32) C dX3_pairNearest_93 (by decide) ?_
            obtain ⟨m9, hm9, hw⟩ := hw
            refine aw_sub [(0, vR a0), (1, vI a1), (3, vI x3_90), (4, vI x4_90), (5, vI x5_90), (6, vI x6_13), (7, vI x7_90)] ⟨rfl, rfl, rfl, rfl, rfl, rfl, rfl, trivial⟩ ?_
            exact ih_32 m9 hm9 _ _ _ _ _ hw
          refine aw_if_eq (pc := 57) (tgt := 90) C dX3_pairNearest_57 (by decide) (fun hc9 => ?_) (fun hc9 => ?_)
          · have hw := hw.1 hc9
            refine aw_sub [(0, vR a0), (1, vI a1), (3, vI x3_32), (4, vI x4_32), (5, vI x5_32), (6, vI x6_13), (7, vI x7_32)] ⟨rfl, rfl, rfl, rfl, rfl, rfl, rfl, trivial⟩ ?_
            exact J_90 _ _ _ _ hw
          · have hw := hw.2 hc9
            refine aw_aload_n (pc := 60) C dX3_pairNearest_60 rfl rfl ?_
            refine aw_iload (pc := 61) C dX3_pairNearest_61 rfl ?_
            refine aw_iload (pc := 63) C dX3_pairNearest_63 rfl ?_
            obtain ⟨hp9, hw⟩ := hw
            refine aw_callV (pc := 65) (as := [vI x6_13, vI x7_32]) C ci3 (fun As hA => met_X3_distance G l As a0 x6_13 x7_32 _ _ hA hw) tw371 tw372 tw373 tw7 tw374 ⟨rfl, rfl⟩ ⟨rfl, by decide, by decide, pd_X3_distance⟩ ⟨Nat.le_of_ble_eq_true rfl, Nat.le_of_ble_eq_true rfl⟩ ⟨Nat.zero_le _, Nat.zero_le _⟩ (Nat.le_of_ble_eq_true rfl) dX3_pairNearest_65 rfl hp9 (fun v9 h65 hq9 => ?_)
            obtain ⟨r65, rfl, hw⟩ := hq9
            refine aw_iload (pc := 68) C dX3_pairNearest_68 rfl ?_
            refine aw_icmp_ge (pc := 70) (tgt := 90) C dX3_pairNearest_70 (by decide) (fun hc9 => ?_) (fun hc9 => ?_)
            · have hw := hw.1 hc9
              refine aw_sub [(0, vR a0), (1, vI a1), (3, vI x3_32), (4, vI x4_32), (5, vI x5_32), (6, vI x6_13), (7, vI x7_32)] ⟨rfl, rfl, rfl, rfl, rfl, rfl, rfl, trivial⟩ ?_
              exact J_90 _ _ _ _ hw
            · have hw := hw.2 hc9
              refine aw_aload_n (pc := 73) C dX3_pairNearest_73 rfl rfl ?_
              refine aw_iload (pc := 74) C dX3_pairNearest_74 rfl ?_
              refine aw_iload (pc := 76) C dX3_pairNearest_76 rfl ?_
              obtain ⟨hp9, hw⟩ := hw
              refine aw_callV (pc := 78) (as := [vI x6_13, vI x7_32]) C ci3 (fun As hA => met_X3_distance G l As a0 x6_13 x7_32 _ _ hA hw) tw371 tw372 tw373 tw7 tw374 ⟨rfl, rfl⟩ ⟨rfl, by decide, by decide, pd_X3_distance⟩ ⟨Nat.le_of_ble_eq_true rfl, Nat.le_of_ble_eq_true rfl⟩ ⟨Nat.zero_le _, Nat.zero_le _⟩ (Nat.le_of_ble_eq_true rfl) dX3_pairNearest_78 rfl hp9 (fun v9 h78 hq9 => ?_)
              obtain ⟨r78, rfl, hw⟩ := hq9
              refine aw_istore (pc := 81) C dX3_pairNearest_81 (by rw [hml]; decide) ?_
              refine aw_iload (pc := 83) C dX3_pairNearest_83 rfl ?_
              refine aw_istore_n (pc := 85) C dX3_pairNearest_85 rfl (by rw [hml]; decide) ?_
              refine aw_iload (pc := 86) C dX3_pairNearest_86 rfl ?_
              refine aw_istore (pc := 88) C dX3_pairNearest_88 (by rw [hml]; decide) ?_
              refine aw_sub [(0, vR a0), (1, vI a1), (3, vI x6_13), (4, vI x7_32), (5, vI r78), (6, vI x6_13), (7, vI x7_32)] ⟨rfl, rfl, rfl, rfl, rfl, rfl, rfl, trivial⟩ ?_
              exact J_90 _ _ _ _ hw
      refine aw_sub [(0, vR a0), (1, vI a1), (3, vI x3_13), (4, vI x4_13), (5, vI x5_13), (6, vI x6_13), (7, vI (0 : Int))] ⟨rfl, rfl, rfl, rfl, rfl, rfl, rfl, trivial⟩ ?_
      exact L_32 n9 _ _ _ _ _ hi9
  refine aw_sub [(0, vR a0), (1, vI a1), (3, vI (-1 : Int)), (4, vI (-1 : Int)), (5, vI x5_8), (6, vI (0 : Int))] ⟨rfl, rfl, rfl, rfl, rfl, rfl, trivial⟩ ?_
  exact L_13 n9 _ _ _ _ _ hi9
theorem dX3_work_0 : decode cX3_work 0 = .ok (.aload_n 0, 1) := by decide +kernel
theorem dX3_work_1 : decode cX3_work 1 = .ok (.invokevirtual 34, 3) := by decide +kernel
theorem dX3_work_4 : decode cX3_work 4 = .ok (.aload_n 0, 1) := by decide +kernel
theorem dX3_work_5 : decode cX3_work 5 = .ok (.invokevirtual 37, 3) := by decide +kernel
theorem dX3_work_8 : decode cX3_work 8 = .ok (.iconst 1, 1) := by decide +kernel
theorem dX3_work_9 : decode cX3_work 9 = .ok (.istore_n 1, 1) := by decide +kernel
theorem dX3_work_10 : decode cX3_work 10 = .ok (.iconst 0, 1) := by decide +kernel
theorem dX3_work_11 : decode cX3_work 11 = .ok (.istore_n 2, 1) := by decide +kernel
theorem dX3_work_12 : decode cX3_work 12 = .ok (.iload_n 2, 1) := by decide +kernel
theorem dX3_work_13 : decode cX3_work 13 = .ok (.bipush 40, 2) := by decide +kernel
theorem dX3_work_15 : decode cX3_work 15 = .ok (.if_icmp .ge 28, 3) := by decide +kernel
theorem dX3_work_18 : decode cX3_work 18 = .ok (.iload_n 1, 1) := by decide +kernel
theorem dX3_work_19 : decode cX3_work 19 = .ok (.ifCond .eq 24, 3) := by decide +kernel
theorem dX3_work_22 : decode cX3_work 22 = .ok (.aload_n 0, 1) := by decide +kernel
theorem dX3_work_23 : decode cX3_work 23 = .ok (.iconst 2, 1) := by decide +kernel
theorem dX3_work_24 : decode cX3_work 24 = .ok (.aload_n 0, 1) := by decide +kernel
theorem dX3_work_25 : decode cX3_work 25 = .ok (.getfield 30, 3) := by decide +kernel
theorem dX3_work_28 : decode cX3_work 28 = .ok (.getfield 40, 3) := by decide +kernel
theorem dX3_work_31 : decode cX3_work 31 = .ok (.iconst 1, 1) := by decide +kernel
theorem dX3_work_32 : decode cX3_work 32 = .ok (.iaload, 1) := by decide +kernel
theorem dX3_work_33 : decode cX3_work 33 = .ok (.invokevirtual 45, 3) := by decide +kernel
theorem dX3_work_36 : decode cX3_work 36 = .ok (.istore_n 1, 1) := by decide +kernel
theorem dX3_work_37 : decode cX3_work 37 = .ok (.iinc 2 1, 3) := by decide +kernel
theorem dX3_work_40 : decode cX3_work 40 = .ok (.goto (-28), 3) := by decide +kernel
theorem dX3_work_43 : decode cX3_work 43 = .ok (.iconst 1, 1) := by decide +kernel
theorem dX3_work_44 : decode cX3_work 44 = .ok (.istore_n 1, 1) := by decide +kernel
theorem dX3_work_45 : decode cX3_work 45 = .ok (.iconst 0, 1) := by decide +kernel
theorem dX3_work_46 : decode cX3_work 46 = .ok (.istore_n 2, 1) := by decide +kernel
theorem dX3_work_47 : decode cX3_work 47 = .ok (.iload_n 2, 1) := by decide +kernel
theorem dX3_work_48 : decode cX3_work 48 = .ok (.bipush 40, 2) := by decide +kernel
theorem dX3_work_50 : decode cX3_work 50 = .ok (.if_icmp .ge 28, 3) := by decide +kernel
theorem dX3_work_53 : decode cX3_work 53 = .ok (.iload_n 1, 1) := by decide +kernel
theorem dX3_work_54 : decode cX3_work 54 = .ok (.ifCond .eq 24, 3) := by decide +kernel
theorem dX3_work_57 : decode cX3_work 57 = .ok (.aload_n 0, 1) := by decide +kernel
theorem dX3_work_58 : decode cX3_work 58 = .ok (.iconst 3, 1) := by decide +kernel
theorem dX3_work_59 : decode cX3_work 59 = .ok (.aload_n 0, 1) := by decide +kernel
theorem dX3_work_60 : decode cX3_work 60 = .ok (.getfield 30, 3) := by decide +kernel
theorem dX3_work_63 : decode cX3_work 63 = .ok (.getfield 40, 3) := by decide +kernel
theorem dX3_work_66 : decode cX3_work 66 = .ok (.iconst 2, 1) := by decide +kernel
theorem dX3_work_67 : decode cX3_work 67 = .ok (.iaload, 1) := by decide +kernel
theorem dX3_work_68 : decode cX3_work 68 = .ok (.invokevirtual 45, 3) := by decide +kernel
theorem dX3_work_71 : decode cX3_work 71 = .ok (.istore_n 1, 1) := by decide +kernel
theorem dX3_work_72 : decode cX3_work 72 = .ok (.iinc 2 1, 3) := by decide +kernel
theorem dX3_work_75 : decode cX3_work 75 = .ok (.goto (-28), 3) := by decide +kernel
theorem dX3_work_78 : decode cX3_work 78 = .ok (.return_, 1) := by decide +kernel
theorem pd_X3_work : (parseMethodDescriptor yX3_work.desc).map (fun d => d.parameters.length) = some 0 := by decide +kernel
def w_X3_work (zz : Nat → Nat) (a0 : Nat) (h : AH) (Q : AH → Prop) : Prop := okA h a0 3 ∧ w_X3_unpairAll zz a0 h (fun  (h1 : AH) => okA h1 a0 3 ∧ w_X3_pairCommon zz a0 h1 (fun  (h5 : AH) => ∃ I_12 : Nat → Int → Int → AH → Prop, (∃ n, I_12 n (1 : Int) (0 : Int) h5) ∧ ∀ (n_12 : Nat) (x1_12 : Int) (x2_12 : Int) (h_12 : AH), I_12 n_12 x1_12 x2_12 h_12 → (jn (fun  (h_43 : AH) => ∃ I_47 : Nat → Int → Int → AH → Prop, (∃ n, I_47 n (1 : Int) (0 : Int) h_43) ∧ ∀ (n_47 : Nat) (x1_47 : Int) (x2_47 : Int) (h_47 : AH), I_47 n_47 x1_47 x2_47 h_47 → (jn (fun  (h_78 : AH) => Q h_78) (fun k_78 : AH → Prop => (((40 : Int) ≤ x2_47) → k_78  h_47) ∧ ((¬ ((40 : Int) ≤ x2_47)) → ((x1_47 = 0) → k_78  h_47) ∧ ((¬ (x1_47 = 0)) → okA h_47 a0 3 ∧ ∃ b60 : Nat, hfR h_47 a0 5 = some b60 ∧ okA h_47 b60 4 ∧ ∃ b63 : Nat, hfR h_47 b60 0 = some b63 ∧ okI h_47 b63 (2 : Int) ∧ okA h_47 a0 3 ∧ w_X3_pairNearest zz a0 (3 : Int) (haI h_47 b63 (2 : Int)) h_47 (fun (r68 : Int) (h68 : AH) => inR (x2_47 + 1) ∧ ∀ x2_72 : Int, x2_72 = (x2_47 + 1) → ∃ m, m < n_47 ∧ I_47 m r68 x2_72 h68)))))) (fun k_43 : AH → Prop => (((40 : Int) ≤ x2_12) → k_43  h_12) ∧ ((¬ ((40 : Int) ≤ x2_12)) → ((x1_12 = 0) → k_43  h_12) ∧ ((¬ (x1_12 = 0)) → okA h_12 a0 3 ∧ ∃ b25 : Nat, hfR h_12 a0 5 = some b25 ∧ okA h_12 b25 4 ∧ ∃ b28 : Nat, hfR h_12 b25 0 = some b28 ∧ okI h_12 b28 (1 : Int) ∧ okA h_12 a0 3 ∧ w_X3_pairNearest zz a0 (2 : Int) (haI h_12 b28 (1 : Int)) h_12 (fun (r33 : Int) (h33 : AH) => inR (x2_12 + 1) ∧ ∀ x2_37 : Int, x2_37 = (x2_12 + 1) → ∃ m, m < n_12 ∧ I_12 m r33 x2_37 h33)))))))
set_option maxRecDepth 100000 in
set_option maxHeartbeats 4000000 in
theorem met_X3_work (G : GG) (l : Launch) : ∀ (As : List Value) (a0 : Nat) (h : AH) (Q : AH → Prop), As.map ab = List.map some ([vR a0] : List AV) → w_X3_work G.2.2 a0 h Q → Met l yX3_work (.code yX3_work cX3_work 3 none :: xTb) ({ frames := 3, cells := 0, slots := 0, locals := 72 } : Room) (PcA G As h) (QG G (oV Q)) 0 0 (frA G) := by
  intro As a0 h Q hA hw
  refine met_of hA (by decide) (Nat.le_of_ble_eq_true rfl) (fun p e s m args below meth c C hml hr hnm => ?_)
  unfold w_X3_work at hw
  refine aw_aload_n (pc := 0) C dX3_work_0 rfl rfl ?_
  obtain ⟨hp9, hw⟩ := hw
  refine aw_callV (pc := 1) (as := []) C ci3 (fun As hA => met_X3_unpairAll G l As a0 _ _ hA hw) tw327 tw329 (tbp 2 (n := 7) (by decide +kernel)) tw7 tw330 ⟨rfl, rfl⟩ ⟨rfl, by decide, by decide, pd_X3_unpairAll⟩ ⟨Nat.le_of_ble_eq_true rfl, Nat.le_of_ble_eq_true rfl⟩ ⟨Nat.zero_le _, Nat.zero_le _⟩ (Nat.le_of_ble_eq_true rfl) dX3_work_1 rfl hp9 (fun v9 h1 hq9 => ?_)
  obtain ⟨rfl, hw⟩ := hq9
  refine aw_aload_n (pc := 4) C dX3_work_4 rfl rfl ?_
  obtain ⟨hp9, hw⟩ := hw
  refine aw_callV (pc := 5) (as := []) C ci3 (fun As hA => met_X3_pairCommon G l As a0 _ _ hA hw) tw336 tw338 (tbp 3 (n := 7) (by decide +kernel)) tw7 tw339 ⟨rfl, rfl⟩ ⟨rfl, by decide, by decide, pd_X3_pairCommon⟩ ⟨Nat.le_of_ble_eq_true rfl, Nat.le_of_ble_eq_true rfl⟩ ⟨Nat.zero_le _, Nat.zero_le _⟩ (Nat.le_of_ble_eq_true rfl) dX3_work_5 rfl hp9 (fun v9 h5 hq9 => ?_)
  obtain ⟨rfl, hw⟩ := hq9
  refine aw_iconst (pc := 8) C dX3_work_8 (i := (1 : Int)) (by decide) ?_
  refine aw_istore_n (pc := 9) C dX3_work_9 rfl (by rw [hml]; decide) ?_
  refine aw_iconst (pc := 10) C dX3_work_10 (i := (0 : Int)) (by decide) ?_
  refine aw_istore_n (pc := 11) C dX3_work_11 rfl (by rw [hml]; decide) ?_
  obtain ⟨I_12, ⟨n9, hi9⟩, hst9⟩ := hw
  have L_12 : ∀ (n_12 : Nat) (x1_12 : Int) (x2_12 : Int) (h_12 : AH), I_12 n_12 x1_12 x2_12 h_12 → AW G p l e ({ frames := 3, cells := 0, slots := 0, locals := 72 } : Room) s m args below meth c 0 0 (MQ below (QG G (oV Q)) args s 0 0 (frA G)) 12 (eOf [(0, vR a0), (1, vI x1_12), (2, vI x2_12)]) [] h_12 := by
    intro n_12
    induction n_12 using Nat.strongRecOn with
    | _ n_12 ih_12 =>
    intro x1_12 x2_12 h_12 hi9
    have hw := hst9 n_12 x1_12 x2_12 h_12 hi9
    refine aw_iload_n (pc := 12) C dX3_work_12 rfl rfl ?_
    refine aw_bipush (pc := 13) C dX3_work_13 (i := (40 : Int)) (by decide) ?_
    obtain ⟨k_43, hk_43, hw⟩ := jn_out hw
    have J_43 : ∀  (h_43 : AH), k_43  h_43 → AW G p l e ({ frames := 3, cells := 0, slots := 0, locals := 72 } : Room) s m args below meth c 0 0 (MQ below (QG G (oV Q)) args s 0 0 (frA G)) 43 (eOf [(0, vR a0)]) [] h_43 := by
      intro  h_43 hw
      rw [hk_43] at hw
      refine aw_iconst (pc := 43) C dX3_work_43 (i := (1 : Int)) (by decide) ?_
      refine aw_istore_n (pc := 44) C dX3_work_44 rfl (by rw [hml]; decide) ?_
      refine aw_iconst (pc := 45) C dX3_work_45 (i := (0 : Int)) (by decide) ?_
      refine aw_istore_n (pc := 46) C dX3_work_46 rfl (by rw [hml]; decide) ?_
      obtain ⟨I_47, ⟨n9, hi9⟩, hst9⟩ := hw
      have L_47 : ∀ (n_47 : Nat) (x1_47 : Int) (x2_47 : Int) (h_47 : AH), I_47 n_47 x1_47 x2_47 h_47 → AW G p l e ({ frames := 3, cells := 0, slots := 0, locals := 72 } : Room) s m args below meth c 0 0 (MQ below (QG G (oV Q)) args s 0 0 (frA G)) 47 (eOf [(0, vR a0), (1, vI x1_47), (2, vI x2_47)]) [] h_47 := by
        intro n_47
        induction n_47 using Nat.strongRecOn with
        | _ n_47 ih_47 =>
        intro x1_47 x2_47 h_47 hi9
        have hw := hst9 n_47 x1_47 x2_47 h_47 hi9
        refine aw_iload_n (pc := 47) C dX3_work_47 rfl rfl ?_
        refine aw_bipush (pc := 48) C dX3_work_48 (i := (40 : Int)) (by decide) ?_
        obtain ⟨k_78, hk_78, hw⟩ := jn_out hw
        have J_78 : ∀  (h_78 : AH), k_78  h_78 → AW G p l e ({ frames := 3, cells := 0, slots := 0, locals := 72 } : Room) s m args below meth c 0 0 (MQ below (QG G (oV Q)) args s 0 0 (frA G)) 78 (eOf []) [] h_78 := by
          intro  h_78 hw
          rw [hk_78] at hw
          exact aw_vret (pc := 78) C hr dX3_work_78 ⟨Nat.le_of_ble_eq_true rfl, Nat.le_of_ble_eq_true rfl⟩ ⟨rfl, hw⟩
        refine aw_icmp_ge (pc := 50) (tgt := 78) C dX3_work_50 (by decide) (fun hc9 => ?_) (fun hc9 => ?_)
        · have hw := hw.1 hc9
          refine aw_sub [] trivial ?_
          exact J_78  _ hw
        · have hw := hw.2 hc9
          refine aw_iload_n (pc := 53) C dX3_work_53 rfl rfl ?_
          refine aw_if_eq (pc := 54) (tgt := 78) C dX3_work_54 (by decide) (fun hc9 => ?_) (fun hc9 => ?_)
          · have hw := hw.1 hc9
            refine aw_sub [] trivial ?_
            exact J_78  _ hw
          · have hw := hw.2 hc9
            refine aw_aload_n (pc := 57) C dX3_work_57 rfl rfl ?_
            refine aw_iconst (pc := 58) C dX3_work_58 (i := (3 : Int)) (by decide) ?_
            refine aw_aload_n (pc := 59) C dX3_work_59 rfl rfl ?_
            obtain ⟨hp9, b60, hb9, hw⟩ := hw
            refine aw_getR (pc := 60) C (ci := 3) (k := 5) ci3 (by decide) tw102 dX3_work_60 rfl hp9 hb9 ?_
            obtain ⟨hp9, b63, hb9, hw⟩ := hw
            refine aw_getR (pc := 63) C (ci := 4) (k := 0) ci4 (by decide) tw65 dX3_work_63 rfl hp9 hb9 ?_
            refine aw_iconst (pc := 66) C dX3_work_66 (i := (2 : Int)) (by decide) ?_
            obtain ⟨⟨k9, hp9⟩, hw⟩ := hw
            refine aw_iald (pc := 67) C dX3_work_67 hp9 ?_
            obtain ⟨hp9, hw⟩ := hw
            refine aw_callV (pc := 68) (as := [vI (3 : Int), vI (haI h_47 b63 (2 : Int))]) C ci3 (fun As hA => met_X3_pairNearest G l As a0 (3 : Int) (haI h_47 b63 (2 : Int)) _ _ hA hw) tw359 tw361 (tbp 7 (n := 7) (by decide +kernel)) tw7 tw362 ⟨rfl, rfl⟩ ⟨rfl, by decide, by decide, pd_X3_pairNearest⟩ ⟨Nat.le_of_ble_eq_true rfl, Nat.le_of_ble_eq_true rfl⟩ ⟨Nat.zero_le _, Nat.zero_le _⟩ (Nat.le_of_ble_eq_true rfl) dX3_work_68 rfl hp9 (fun v9 h68 hq9 => ?_)
            obtain ⟨r68, rfl, hw⟩ := hq9
            refine aw_istore_n (pc := 71) C dX3_work_71 rfl (by rw [hml]; decide) ?_
            obtain ⟨hp9, hw⟩ := hw
            refine aw_iincN (pc := 72) C dX3_work_72 (k := 1) (by decide) rfl (by rw [hml]; decide) hp9 (fun x2_72 e9 => ?_)
            have hw := hw x2_72 e9
            refine aw_goto (pc := 75) (tgt := 47) C dX3_work_75 (by decide) ?_
            obtain ⟨m9, hm9, hw⟩ := hw
            refine aw_sub [(0, vR a0), (1, vI r68), (2, vI x2_72)] ⟨rfl, rfl, rfl, trivial⟩ ?_
            exact ih_47 m9 hm9 _ _ _ hw
      refine aw_sub [(0, vR a0), (1, vI (1 : Int)), (2, vI (0 : Int))] ⟨rfl, rfl, rfl, trivial⟩ ?_
      exact L_47 n9 _ _ _ hi9
    refine aw_icmp_ge (pc := 15) (tgt := 43) C dX3_work_15 (by decide) (fun hc9 => ?_) (fun hc9 => ?_)
    · have hw := hw.1 hc9
      refine aw_sub [(0, vR a0)] ⟨rfl, trivial⟩ ?_
      exact J_43  _ hw
    · have hw := hw.2 hc9
      refine aw_iload_n (pc := 18) C dX3_work_18 rfl rfl ?_
      refine aw_if_eq (pc := 19) (tgt := 43) C dX3_work_19 (by decide) (fun hc9 => ?_) (fun hc9 => ?_)
      · have hw := hw.1 hc9
        refine aw_sub [(0, vR a0)] ⟨rfl, trivial⟩ ?_
        exact J_43  _ hw
      · have hw := hw.2 hc9
        refine aw_aload_n (pc := 22) C dX3_work_22 rfl rfl ?_
        refine aw_iconst (pc := 23) C dX3_work_23 (i := (2 : Int)) (by decide) ?_
        refine aw_aload_n (pc := 24) C dX3_work_24 rfl rfl ?_
        obtain ⟨hp9, b25, hb9, hw⟩ := hw
        refine aw_getR (pc := 25) C (ci := 3) (k := 5) ci3 (by decide) tw102 dX3_work_25 rfl hp9 hb9 ?_
        obtain ⟨hp9, b28, hb9, hw⟩ := hw
        refine aw_getR (pc := 28) C (ci := 4) (k := 0) ci4 (by decide) tw65 dX3_work_28 rfl hp9 hb9 ?_
        refine aw_iconst (pc := 31) C dX3_work_31 (i := (1 : Int)) (by decide) ?_
        obtain ⟨⟨k9, hp9⟩, hw⟩ := hw
        refine aw_iald (pc := 32) C dX3_work_32 hp9 ?_
        obtain ⟨hp9, hw⟩ := hw
        refine aw_callV (pc := 33) (as := [vI (2 : Int), vI (haI h_12 b28 (1 : Int))]) C ci3 (fun As hA => met_X3_pairNearest G l As a0 (2 : Int) (haI h_12 b28 (1 : Int)) _ _ hA hw) tw359 tw361 (tbp 7 (n := 7) (by decide +kernel)) tw7 tw362 ⟨rfl, rfl⟩ ⟨rfl, by decide, by decide, pd_X3_pairNearest⟩ ⟨Nat.le_of_ble_eq_true rfl, Nat.le_of_ble_eq_true rfl⟩ ⟨Nat.zero_le _, Nat.zero_le _⟩ (Nat.le_of_ble_eq_true rfl) dX3_work_33 rfl hp9 (fun v9 h33 hq9 => ?_)
        obtain ⟨r33, rfl, hw⟩ := hq9
        refine aw_istore_n (pc := 36) C dX3_work_36 rfl (by rw [hml]; decide) ?_
        obtain ⟨hp9, hw⟩ := hw
        refine aw_iincN (pc := 37) C dX3_work_37 (k := 1) (by decide) rfl (by rw [hml]; decide) hp9 (fun x2_37 e9 => ?_)
        have hw := hw x2_37 e9
        refine aw_goto (pc := 40) (tgt := 12) C dX3_work_40 (by decide) ?_
        obtain ⟨m9, hm9, hw⟩ := hw
        refine aw_sub [(0, vR a0), (1, vI r33), (2, vI x2_37)] ⟨rfl, rfl, rfl, trivial⟩ ?_
        exact ih_12 m9 hm9 _ _ _ hw
  refine aw_sub [(0, vR a0), (1, vI (1 : Int)), (2, vI (0 : Int))] ⟨rfl, rfl, rfl, trivial⟩ ?_
  exact L_12 n9 _ _ _ hi9
