/-! THE METHODS, BY PROGRAM (wip/whole/gen.py): what each means (w_..), and its contract (met_..) -/
theorem dX1_init_0 : decode cX1_init 0 = .ok (.aload_n 0, 1) := by decide +kernel
theorem dX1_init_1 : decode cX1_init 1 = .ok (.invokespecial 3, 3) := by decide +kernel
theorem dX1_init_4 : decode cX1_init 4 = .ok (.aload_n 0, 1) := by decide +kernel
theorem dX1_init_5 : decode cX1_init 5 = .ok (.bipush 40, 2) := by decide +kernel
theorem dX1_init_7 : decode cX1_init 7 = .ok (.newarray .int, 2) := by decide +kernel
theorem dX1_init_9 : decode cX1_init 9 = .ok (.putfield 9, 3) := by decide +kernel
theorem dX1_init_12 : decode cX1_init 12 = .ok (.aload_n 0, 1) := by decide +kernel
theorem dX1_init_13 : decode cX1_init 13 = .ok (.bipush 40, 2) := by decide +kernel
theorem dX1_init_15 : decode cX1_init 15 = .ok (.newarray .int, 2) := by decide +kernel
theorem dX1_init_17 : decode cX1_init 17 = .ok (.putfield 15, 3) := by decide +kernel
theorem dX1_init_20 : decode cX1_init 20 = .ok (.aload_n 0, 1) := by decide +kernel
theorem dX1_init_21 : decode cX1_init 21 = .ok (.bipush 80, 2) := by decide +kernel
theorem dX1_init_23 : decode cX1_init 23 = .ok (.newarray .int, 2) := by decide +kernel
theorem dX1_init_25 : decode cX1_init 25 = .ok (.putfield 18, 3) := by decide +kernel
theorem dX1_init_28 : decode cX1_init 28 = .ok (.aload_n 0, 1) := by decide +kernel
theorem dX1_init_29 : decode cX1_init 29 = .ok (.bipush 80, 2) := by decide +kernel
theorem dX1_init_31 : decode cX1_init 31 = .ok (.newarray .int, 2) := by decide +kernel
theorem dX1_init_33 : decode cX1_init 33 = .ok (.putfield 21, 3) := by decide +kernel
theorem dX1_init_36 : decode cX1_init 36 = .ok (.aload_n 0, 1) := by decide +kernel
theorem dX1_init_37 : decode cX1_init 37 = .ok (.bipush 80, 2) := by decide +kernel
theorem dX1_init_39 : decode cX1_init 39 = .ok (.newarray .int, 2) := by decide +kernel
theorem dX1_init_41 : decode cX1_init 41 = .ok (.putfield 24, 3) := by decide +kernel
theorem dX1_init_44 : decode cX1_init 44 = .ok (.aload_n 0, 1) := by decide +kernel
theorem dX1_init_45 : decode cX1_init 45 = .ok (.iconst 0, 1) := by decide +kernel
theorem dX1_init_46 : decode cX1_init 46 = .ok (.putfield 27, 3) := by decide +kernel
theorem dX1_init_49 : decode cX1_init 49 = .ok (.aload_n 0, 1) := by decide +kernel
theorem dX1_init_50 : decode cX1_init 50 = .ok (.aload_n 1, 1) := by decide +kernel
theorem dX1_init_51 : decode cX1_init 51 = .ok (.putfield 31, 3) := by decide +kernel
theorem dX1_init_54 : decode cX1_init 54 = .ok (.aload_n 0, 1) := by decide +kernel
theorem dX1_init_55 : decode cX1_init 55 = .ok (.new 35, 3) := by decide +kernel
theorem dX1_init_58 : decode cX1_init 58 = .ok (.dup, 1) := by decide +kernel
theorem dX1_init_59 : decode cX1_init 59 = .ok (.aload_n 1, 1) := by decide +kernel
theorem dX1_init_60 : decode cX1_init 60 = .ok (.invokespecial 37, 3) := by decide +kernel
theorem dX1_init_63 : decode cX1_init 63 = .ok (.putfield 40, 3) := by decide +kernel
theorem dX1_init_66 : decode cX1_init 66 = .ok (.aload_n 0, 1) := by decide +kernel
theorem dX1_init_67 : decode cX1_init 67 = .ok (.new 44, 3) := by decide +kernel
theorem dX1_init_70 : decode cX1_init 70 = .ok (.dup, 1) := by decide +kernel
theorem dX1_init_71 : decode cX1_init 71 = .ok (.aload_n 1, 1) := by decide +kernel
theorem dX1_init_72 : decode cX1_init 72 = .ok (.aload_n 0, 1) := by decide +kernel
theorem dX1_init_73 : decode cX1_init 73 = .ok (.getfield 40, 3) := by decide +kernel
theorem dX1_init_76 : decode cX1_init 76 = .ok (.invokespecial 46, 3) := by decide +kernel
theorem dX1_init_79 : decode cX1_init 79 = .ok (.putfield 49, 3) := by decide +kernel
theorem dX1_init_82 : decode cX1_init 82 = .ok (.return_, 1) := by decide +kernel
theorem pd_X1_init : (parseMethodDescriptor yX1_init.desc).map (fun d => d.parameters.length) = some 1 := by decide +kernel
def w_X1_init (zz : Nat → Nat) (a0 : Nat) (a1 : Nat) (h : AH) (Q : AH → Prop) : Prop := ∀ h7 : AH, h7 = nAI h 40 → okP h7 a0 1 ∧ ∀ h9 : AH, h9 = sfR h7 a0 3 (some (hn h)) → ∀ h15 : AH, h15 = nAI h9 40 → okP h15 a0 1 ∧ ∀ h17 : AH, h17 = sfR h15 a0 4 (some (hn h9)) → ∀ h23 : AH, h23 = nAI h17 80 → okP h23 a0 1 ∧ ∀ h25 : AH, h25 = sfR h23 a0 5 (some (hn h17)) → ∀ h31 : AH, h31 = nAI h25 80 → okP h31 a0 1 ∧ ∀ h33 : AH, h33 = sfR h31 a0 6 (some (hn h25)) → ∀ h39 : AH, h39 = nAI h33 80 → okP h39 a0 1 ∧ ∀ h41 : AH, h41 = sfR h39 a0 7 (some (hn h33)) → okP h41 a0 1 ∧ ∀ h46 : AH, h46 = sfI h41 a0 8 (0 : Int) → okP h46 a0 1 ∧ ∀ h51 : AH, h51 = sfR h46 a0 2 (some a1) → ∀ h55 : AH, h55 = nOb h51 3 → w_X3_init zz (hn h51) a1 h55 (fun  (h60 : AH) => okP h60 a0 1 ∧ ∀ h63 : AH, h63 = sfR h60 a0 0 (some (hn h51)) → ∀ h67 : AH, h67 = nOb h63 2 → okA h67 a0 1 ∧ ∃ b73 : Nat, hfR h67 a0 0 = some b73 ∧ w_X2_init zz (hn h63) a1 b73 h67 (fun  (h76 : AH) => okP h76 a0 1 ∧ ∀ h79 : AH, h79 = sfR h76 a0 1 (some (hn h63)) → Q h79))
set_option maxRecDepth 100000 in
set_option maxHeartbeats 4000000 in
theorem met_X1_init (G : GG) (l : Launch) : ∀ (As : List Value) (a0 : Nat) (a1 : Nat) (h : AH) (Q : AH → Prop), As.map ab = List.map some ([vR a0, vR a1] : List AV) → w_X1_init G.2.2 a0 a1 h Q → Met l yX1_init (.code yX1_init cX1_init 2 none :: xTb) ({ frames := 2, cells := 21, slots := 10298, locals := 42 } : Room) (PcA G As h) (QG G (oV Q)) 21 10298 (frA G) := by
  intro As a0 a1 h Q hA hw
  refine met_of hA (by decide) (Nat.le_of_ble_eq_true rfl) (fun p e s m args below meth c C hml hr hnm => ?_)
  unfold w_X1_init at hw
  refine aw_aload_n (pc := 0) C dX1_init_0 rfl rfl ?_
  refine aw_objInit (pc := 1) C tw82 tw23 tw24 ⟨Nat.le_of_ble_eq_true rfl, Nat.le_of_ble_eq_true rfl⟩ (Nat.le_of_ble_eq_true rfl) dX1_init_1 ?_
  refine aw_aload_n (pc := 4) C dX1_init_4 rfl rfl ?_
  refine aw_bipush (pc := 5) C dX1_init_5 (i := (40 : Int)) (by decide) ?_
  refine aw_newI (pc := 7) (n := 40) C tw57 dX1_init_7 (Nat.le_of_ble_eq_true rfl) (Nat.le_of_ble_eq_true rfl) (Nat.le_of_ble_eq_true rfl) (aw_nmH (fun h7 e9 => ?_))
  have hw := hw h7 e9
  obtain ⟨hp9, hw⟩ := hw
  refine aw_putR (pc := 9) C (ci := 1) (k := 3) ci1 (by decide) tw173 (Or.inr ⟨rfl, hnm, rfl⟩) dX1_init_9 rfl hp9 (aw_nmH (fun h9 e9 => ?_))
  have hw := hw h9 e9
  refine aw_aload_n (pc := 12) C dX1_init_12 rfl rfl ?_
  refine aw_bipush (pc := 13) C dX1_init_13 (i := (40 : Int)) (by decide) ?_
  refine aw_newI (pc := 15) (n := 40) C tw57 dX1_init_15 (Nat.le_of_ble_eq_true rfl) (Nat.le_of_ble_eq_true rfl) (Nat.le_of_ble_eq_true rfl) (aw_nmH (fun h15 e9 => ?_))
  have hw := hw h15 e9
  obtain ⟨hp9, hw⟩ := hw
  refine aw_putR (pc := 17) C (ci := 1) (k := 4) ci1 (by decide) tw174 (Or.inr ⟨rfl, hnm, rfl⟩) dX1_init_17 rfl hp9 (aw_nmH (fun h17 e9 => ?_))
  have hw := hw h17 e9
  refine aw_aload_n (pc := 20) C dX1_init_20 rfl rfl ?_
  refine aw_bipush (pc := 21) C dX1_init_21 (i := (80 : Int)) (by decide) ?_
  refine aw_newI (pc := 23) (n := 80) C tw57 dX1_init_23 (Nat.le_of_ble_eq_true rfl) (Nat.le_of_ble_eq_true rfl) (Nat.le_of_ble_eq_true rfl) (aw_nmH (fun h23 e9 => ?_))
  have hw := hw h23 e9
  obtain ⟨hp9, hw⟩ := hw
  refine aw_putR (pc := 25) C (ci := 1) (k := 5) ci1 (by decide) tw175 (Or.inr ⟨rfl, hnm, rfl⟩) dX1_init_25 rfl hp9 (aw_nmH (fun h25 e9 => ?_))
  have hw := hw h25 e9
  refine aw_aload_n (pc := 28) C dX1_init_28 rfl rfl ?_
  refine aw_bipush (pc := 29) C dX1_init_29 (i := (80 : Int)) (by decide) ?_
  refine aw_newI (pc := 31) (n := 80) C tw57 dX1_init_31 (Nat.le_of_ble_eq_true rfl) (Nat.le_of_ble_eq_true rfl) (Nat.le_of_ble_eq_true rfl) (aw_nmH (fun h31 e9 => ?_))
  have hw := hw h31 e9
  obtain ⟨hp9, hw⟩ := hw
  refine aw_putR (pc := 33) C (ci := 1) (k := 6) ci1 (by decide) tw176 (Or.inr ⟨rfl, hnm, rfl⟩) dX1_init_33 rfl hp9 (aw_nmH (fun h33 e9 => ?_))
  have hw := hw h33 e9
  refine aw_aload_n (pc := 36) C dX1_init_36 rfl rfl ?_
  refine aw_bipush (pc := 37) C dX1_init_37 (i := (80 : Int)) (by decide) ?_
  refine aw_newI (pc := 39) (n := 80) C tw57 dX1_init_39 (Nat.le_of_ble_eq_true rfl) (Nat.le_of_ble_eq_true rfl) (Nat.le_of_ble_eq_true rfl) (aw_nmH (fun h39 e9 => ?_))
  have hw := hw h39 e9
  obtain ⟨hp9, hw⟩ := hw
  refine aw_putR (pc := 41) C (ci := 1) (k := 7) ci1 (by decide) tw177 (Or.inr ⟨rfl, hnm, rfl⟩) dX1_init_41 rfl hp9 (aw_nmH (fun h41 e9 => ?_))
  have hw := hw h41 e9
  refine aw_aload_n (pc := 44) C dX1_init_44 rfl rfl ?_
  refine aw_iconst (pc := 45) C dX1_init_45 (i := (0 : Int)) (by decide) ?_
  obtain ⟨hp9, hw⟩ := hw
  refine aw_putI (pc := 46) C (ci := 1) (k := 8) ci1 (by decide) tw178 (Or.inl rfl) dX1_init_46 rfl hp9 (aw_nmH (fun h46 e9 => ?_))
  have hw := hw h46 e9
  refine aw_aload_n (pc := 49) C dX1_init_49 rfl rfl ?_
  refine aw_aload_n (pc := 50) C dX1_init_50 rfl rfl ?_
  obtain ⟨hp9, hw⟩ := hw
  refine aw_putR (pc := 51) C (ci := 1) (k := 2) ci1 (by decide) tw172 (Or.inr ⟨rfl, hnm, rfl⟩) dX1_init_51 rfl hp9 (aw_nmH (fun h51 e9 => ?_))
  have hw := hw h51 e9
  refine aw_aload_n (pc := 54) C dX1_init_54 rfl rfl ?_
  refine aw_new (pc := 55) C ci3 tw83 tw84 tw7 (by decide) dX1_init_55 (Nat.le_of_ble_eq_true rfl) (Nat.le_of_ble_eq_true rfl) (aw_nmH (fun h55 e9 => ?_))
  have hw := hw h55 e9
  refine aw_dup (pc := 58) C dX1_init_58 rfl ?_
  refine aw_aload_n (pc := 59) C dX1_init_59 rfl rfl ?_
  refine aw_callI (pc := 60) (as := [vR a1]) C (fun As hA => met_X3_init G l As (hn h51) a1 _ _ hA hw) tw85 tw86 tw7 tw87 ⟨rfl, rfl⟩ rfl ⟨by decide, by decide, pd_X3_init⟩ ⟨Nat.le_of_ble_eq_true rfl, Nat.le_of_ble_eq_true rfl⟩ ⟨(Nat.le_of_ble_eq_true rfl), (Nat.le_of_ble_eq_true rfl)⟩ (Nat.le_of_ble_eq_true rfl) dX1_init_60 rfl (fun v9 h60 hq9 => ?_)
  obtain ⟨rfl, hw⟩ := hq9
  obtain ⟨hp9, hw⟩ := hw
  refine aw_putR (pc := 63) C (ci := 1) (k := 0) ci1 (by decide) tw169 (Or.inr ⟨rfl, hnm, rfl⟩) dX1_init_63 rfl hp9 (aw_nmH (fun h63 e9 => ?_))
  have hw := hw h63 e9
  refine aw_aload_n (pc := 66) C dX1_init_66 rfl rfl ?_
  refine aw_new (pc := 67) C ci2 tw119 tw120 tw8 (by decide) dX1_init_67 (Nat.le_of_ble_eq_true rfl) (Nat.le_of_ble_eq_true rfl) (aw_nmH (fun h67 e9 => ?_))
  have hw := hw h67 e9
  refine aw_dup (pc := 70) C dX1_init_70 rfl ?_
  refine aw_aload_n (pc := 71) C dX1_init_71 rfl rfl ?_
  refine aw_aload_n (pc := 72) C dX1_init_72 rfl rfl ?_
  obtain ⟨hp9, b73, hb9, hw⟩ := hw
  refine aw_getR (pc := 73) C (ci := 1) (k := 0) ci1 (by decide) tw169 dX1_init_73 rfl hp9 hb9 ?_
  refine aw_callI (pc := 76) (as := [vR a1, vR b73]) C (fun As hA => met_X2_init G l As (hn h63) a1 b73 _ _ hA hw) tw121 tw122 tw8 tw123 ⟨rfl, rfl⟩ rfl ⟨by decide, by decide, pd_X2_init⟩ ⟨Nat.le_of_ble_eq_true rfl, Nat.le_of_ble_eq_true rfl⟩ ⟨(Nat.le_of_ble_eq_true rfl), (Nat.le_of_ble_eq_true rfl)⟩ (Nat.le_of_ble_eq_true rfl) dX1_init_76 rfl (fun v9 h76 hq9 => ?_)
  obtain ⟨rfl, hw⟩ := hq9
  obtain ⟨hp9, hw⟩ := hw
  refine aw_putR (pc := 79) C (ci := 1) (k := 1) ci1 (by decide) tw171 (Or.inr ⟨rfl, hnm, rfl⟩) dX1_init_79 rfl hp9 (aw_nmH (fun h79 e9 => ?_))
  have hw := hw h79 e9
  exact aw_vret (pc := 82) C hr dX1_init_82 ⟨Nat.le_of_ble_eq_true rfl, Nat.le_of_ble_eq_true rfl⟩ ⟨rfl, hw⟩
theorem dX1_work_0 : decode cX1_work 0 = .ok (.aload_n 0, 1) := by decide +kernel
theorem dX1_work_1 : decode cX1_work 1 = .ok (.getfield 40, 3) := by decide +kernel
theorem dX1_work_4 : decode cX1_work 4 = .ok (.invokevirtual 53, 3) := by decide +kernel
theorem dX1_work_7 : decode cX1_work 7 = .ok (.aload_n 0, 1) := by decide +kernel
theorem dX1_work_8 : decode cX1_work 8 = .ok (.getfield 49, 3) := by decide +kernel
theorem dX1_work_11 : decode cX1_work 11 = .ok (.invokevirtual 56, 3) := by decide +kernel
theorem dX1_work_14 : decode cX1_work 14 = .ok (.aload_n 0, 1) := by decide +kernel
theorem dX1_work_15 : decode cX1_work 15 = .ok (.aload_n 0, 1) := by decide +kernel
theorem dX1_work_16 : decode cX1_work 16 = .ok (.getfield 31, 3) := by decide +kernel
theorem dX1_work_19 : decode cX1_work 19 = .ok (.getfield 57, 3) := by decide +kernel
theorem dX1_work_22 : decode cX1_work 22 = .ok (.bipush 6, 2) := by decide +kernel
theorem dX1_work_24 : decode cX1_work 24 = .ok (.iaload, 1) := by decide +kernel
theorem dX1_work_25 : decode cX1_work 25 = .ok (.aload_n 0, 1) := by decide +kernel
theorem dX1_work_26 : decode cX1_work 26 = .ok (.getfield 40, 3) := by decide +kernel
theorem dX1_work_29 : decode cX1_work 29 = .ok (.getfield 62, 3) := by decide +kernel
theorem dX1_work_32 : decode cX1_work 32 = .ok (.iconst 4, 1) := by decide +kernel
theorem dX1_work_33 : decode cX1_work 33 = .ok (.iaload, 1) := by decide +kernel
theorem dX1_work_34 : decode cX1_work 34 = .ok (.iadd, 1) := by decide +kernel
theorem dX1_work_35 : decode cX1_work 35 = .ok (.putfield 27, 3) := by decide +kernel
theorem dX1_work_38 : decode cX1_work 38 = .ok (.aload_n 0, 1) := by decide +kernel
theorem dX1_work_39 : decode cX1_work 39 = .ok (.getfield 31, 3) := by decide +kernel
theorem dX1_work_42 : decode cX1_work 42 = .ok (.getfield 57, 3) := by decide +kernel
theorem dX1_work_45 : decode cX1_work 45 = .ok (.bipush 6, 2) := by decide +kernel
theorem dX1_work_47 : decode cX1_work 47 = .ok (.iaload, 1) := by decide +kernel
theorem dX1_work_48 : decode cX1_work 48 = .ok (.istore_n 1, 1) := by decide +kernel
theorem dX1_work_49 : decode cX1_work 49 = .ok (.aload_n 0, 1) := by decide +kernel
theorem dX1_work_50 : decode cX1_work 50 = .ok (.getfield 31, 3) := by decide +kernel
theorem dX1_work_53 : decode cX1_work 53 = .ok (.iconst 0, 1) := by decide +kernel
theorem dX1_work_54 : decode cX1_work 54 = .ok (.invokevirtual 65, 3) := by decide +kernel
theorem dX1_work_57 : decode cX1_work 57 = .ok (.getfield 69, 3) := by decide +kernel
theorem dX1_work_60 : decode cX1_work 60 = .ok (.iconst 1, 1) := by decide +kernel
theorem dX1_work_61 : decode cX1_work 61 = .ok (.isub, 1) := by decide +kernel
theorem dX1_work_62 : decode cX1_work 62 = .ok (.istore_n 2, 1) := by decide +kernel
theorem dX1_work_63 : decode cX1_work 63 = .ok (.iload_n 2, 1) := by decide +kernel
theorem dX1_work_64 : decode cX1_work 64 = .ok (.ifCond .lt 32, 3) := by decide +kernel
theorem dX1_work_67 : decode cX1_work 67 = .ok (.aload_n 0, 1) := by decide +kernel
theorem dX1_work_68 : decode cX1_work 68 = .ok (.getfield 40, 3) := by decide +kernel
theorem dX1_work_71 : decode cX1_work 71 = .ok (.getfield 74, 3) := by decide +kernel
theorem dX1_work_74 : decode cX1_work 74 = .ok (.iload_n 2, 1) := by decide +kernel
theorem dX1_work_75 : decode cX1_work 75 = .ok (.iaload, 1) := by decide +kernel
theorem dX1_work_76 : decode cX1_work 76 = .ok (.iconst 4, 1) := by decide +kernel
theorem dX1_work_77 : decode cX1_work 77 = .ok (.if_icmp .ne 13, 3) := by decide +kernel
theorem dX1_work_80 : decode cX1_work 80 = .ok (.iinc 1 1, 3) := by decide +kernel
theorem dX1_work_83 : decode cX1_work 83 = .ok (.aload_n 0, 1) := by decide +kernel
theorem dX1_work_84 : decode cX1_work 84 = .ok (.getfield 9, 3) := by decide +kernel
theorem dX1_work_87 : decode cX1_work 87 = .ok (.iload_n 2, 1) := by decide +kernel
theorem dX1_work_88 : decode cX1_work 88 = .ok (.iload_n 1, 1) := by decide +kernel
theorem dX1_work_89 : decode cX1_work 89 = .ok (.iastore, 1) := by decide +kernel
theorem dX1_work_90 : decode cX1_work 90 = .ok (.iinc 2 (-1), 3) := by decide +kernel
theorem dX1_work_93 : decode cX1_work 93 = .ok (.goto (-30), 3) := by decide +kernel
theorem dX1_work_96 : decode cX1_work 96 = .ok (.aload_n 0, 1) := by decide +kernel
theorem dX1_work_97 : decode cX1_work 97 = .ok (.getfield 27, 3) := by decide +kernel
theorem dX1_work_100 : decode cX1_work 100 = .ok (.aload_n 0, 1) := by decide +kernel
theorem dX1_work_101 : decode cX1_work 101 = .ok (.getfield 49, 3) := by decide +kernel
theorem dX1_work_104 : decode cX1_work 104 = .ok (.getfield 77, 3) := by decide +kernel
theorem dX1_work_107 : decode cX1_work 107 = .ok (.iadd, 1) := by decide +kernel
theorem dX1_work_108 : decode cX1_work 108 = .ok (.istore_n 1, 1) := by decide +kernel
theorem dX1_work_109 : decode cX1_work 109 = .ok (.iconst 0, 1) := by decide +kernel
theorem dX1_work_110 : decode cX1_work 110 = .ok (.istore_n 2, 1) := by decide +kernel
theorem dX1_work_111 : decode cX1_work 111 = .ok (.iload_n 2, 1) := by decide +kernel
theorem dX1_work_112 : decode cX1_work 112 = .ok (.aload_n 0, 1) := by decide +kernel
theorem dX1_work_113 : decode cX1_work 113 = .ok (.getfield 31, 3) := by decide +kernel
theorem dX1_work_116 : decode cX1_work 116 = .ok (.iconst 1, 1) := by decide +kernel
theorem dX1_work_117 : decode cX1_work 117 = .ok (.invokevirtual 65, 3) := by decide +kernel
theorem dX1_work_120 : decode cX1_work 120 = .ok (.getfield 69, 3) := by decide +kernel
theorem dX1_work_123 : decode cX1_work 123 = .ok (.if_icmp .ge 32, 3) := by decide +kernel
theorem dX1_work_126 : decode cX1_work 126 = .ok (.aload_n 0, 1) := by decide +kernel
theorem dX1_work_127 : decode cX1_work 127 = .ok (.getfield 40, 3) := by decide +kernel
theorem dX1_work_130 : decode cX1_work 130 = .ok (.getfield 80, 3) := by decide +kernel
theorem dX1_work_133 : decode cX1_work 133 = .ok (.iload_n 2, 1) := by decide +kernel
theorem dX1_work_134 : decode cX1_work 134 = .ok (.iaload, 1) := by decide +kernel
theorem dX1_work_135 : decode cX1_work 135 = .ok (.iconst 5, 1) := by decide +kernel
theorem dX1_work_136 : decode cX1_work 136 = .ok (.if_icmp .ne 13, 3) := by decide +kernel
theorem dX1_work_139 : decode cX1_work 139 = .ok (.iinc 1 1, 3) := by decide +kernel
theorem dX1_work_142 : decode cX1_work 142 = .ok (.aload_n 0, 1) := by decide +kernel
theorem dX1_work_143 : decode cX1_work 143 = .ok (.getfield 15, 3) := by decide +kernel
theorem dX1_work_146 : decode cX1_work 146 = .ok (.iload_n 2, 1) := by decide +kernel
theorem dX1_work_147 : decode cX1_work 147 = .ok (.iload_n 1, 1) := by decide +kernel
theorem dX1_work_148 : decode cX1_work 148 = .ok (.iastore, 1) := by decide +kernel
theorem dX1_work_149 : decode cX1_work 149 = .ok (.iinc 2 1, 3) := by decide +kernel
theorem dX1_work_152 : decode cX1_work 152 = .ok (.goto (-41), 3) := by decide +kernel
theorem dX1_work_155 : decode cX1_work 155 = .ok (.return_, 1) := by decide +kernel
theorem pd_X1_work : (parseMethodDescriptor yX1_work.desc).map (fun d => d.parameters.length) = some 0 := by decide +kernel
def w_X1_work (zz : Nat → Nat) (a0 : Nat) (h : AH) (Q : AH → Prop) : Prop := okA h a0 1 ∧ ∃ b1 : Nat, hfR h a0 0 = some b1 ∧ okA h b1 3 ∧ w_X3_work zz b1 h (fun  (h4 : AH) => okA h4 a0 1 ∧ ∃ b8 : Nat, hfR h4 a0 1 = some b8 ∧ okA h4 b8 2 ∧ w_X2_work zz b8 h4 (fun  (h11 : AH) => okA h11 a0 1 ∧ ∃ b16 : Nat, hfR h11 a0 2 = some b16 ∧ okA h11 b16 4 ∧ ∃ b19 : Nat, hfR h11 b16 0 = some b19 ∧ okI h11 b19 (6 : Int) ∧ okA h11 a0 1 ∧ ∃ b26 : Nat, hfR h11 a0 0 = some b26 ∧ okA h11 b26 3 ∧ ∃ b29 : Nat, hfR h11 b26 4 = some b29 ∧ okI h11 b29 (4 : Int) ∧ inR ((haI h11 b19 (6 : Int)) + (haI h11 b29 (4 : Int))) ∧ okP h11 a0 1 ∧ ∀ h35 : AH, h35 = sfI h11 a0 8 ((haI h11 b19 (6 : Int)) + (haI h11 b29 (4 : Int))) → okA h35 a0 1 ∧ ∃ b39 : Nat, hfR h35 a0 2 = some b39 ∧ okA h35 b39 4 ∧ ∃ b42 : Nat, hfR h35 b39 0 = some b42 ∧ okI h35 b42 (6 : Int) ∧ ∀ x1_48 : Int, x1_48 = (haI h35 b42 (6 : Int)) → okA h35 a0 1 ∧ ∃ b50 : Nat, hfR h35 a0 2 = some b50 ∧ okA h35 b50 4 ∧ w_X4_text zz b50 (0 : Int) h35 (fun (r54 : Nat) (h54 : AH) => okA h54 r54 5 ∧ inR ((hfI h54 r54 2) - (1 : Int)) ∧ ∀ x2_62 : Int, x2_62 = ((hfI h54 r54 2) - (1 : Int)) → ∃ I_63 : Nat → Int → Int → AH → Prop, (∃ n, I_63 n x1_48 x2_62 h54) ∧ ∀ (n_63 : Nat) (x1_63 : Int) (x2_63 : Int) (h_63 : AH), I_63 n_63 x1_63 x2_63 h_63 → (((x2_63 < 0) → okA h_63 a0 1 ∧ okA h_63 a0 1 ∧ ∃ b101 : Nat, hfR h_63 a0 1 = some b101 ∧ okA h_63 b101 2 ∧ inR ((hfI h_63 a0 8) + (hfI h_63 b101 3)) ∧ ∀ x1_108 : Int, x1_108 = ((hfI h_63 a0 8) + (hfI h_63 b101 3)) → ∃ I_111 : Nat → Int → Int → AH → Prop, (∃ n, I_111 n x1_108 (0 : Int) h_63) ∧ ∀ (n_111 : Nat) (x1_111 : Int) (x2_111 : Int) (h_111 : AH), I_111 n_111 x1_111 x2_111 h_111 → (okA h_111 a0 1 ∧ ∃ b113 : Nat, hfR h_111 a0 2 = some b113 ∧ okA h_111 b113 4 ∧ w_X4_text zz b113 (1 : Int) h_111 (fun (r117 : Nat) (h117 : AH) => okA h117 r117 5 ∧ (((hfI h117 r117 2) ≤ x2_111) → Q h117) ∧ ((¬ ((hfI h117 r117 2) ≤ x2_111)) → okA h117 a0 1 ∧ ∃ b127 : Nat, hfR h117 a0 0 = some b127 ∧ okA h117 b127 3 ∧ ∃ b130 : Nat, hfR h117 b127 3 = some b130 ∧ okI h117 b130 x2_111 ∧ jn (fun (x1_149 : Int) (h_149 : AH) => inR (x2_111 + 1) ∧ ∀ x2_149 : Int, x2_149 = (x2_111 + 1) → ∃ m, m < n_111 ∧ I_111 m x1_149 x2_149 h_149) (fun k_149 : Int → AH → Prop => ((¬ (haI h117 b130 x2_111) = (5 : Int)) → k_149 x1_111 h117) ∧ (((haI h117 b130 x2_111) = (5 : Int)) → inR (x1_111 + 1) ∧ ∀ x1_139 : Int, x1_139 = (x1_111 + 1) → okA h117 a0 1 ∧ ∃ b143 : Nat, hfR h117 a0 4 = some b143 ∧ okW h117 b143 x2_111 ∧ ∀ h148 : AH, h148 = saI h117 b143 (u1 (haI h117 b143) x2_111 x1_139) → k_149 x1_139 h148)))))) ∧ ((¬ (x2_63 < 0)) → okA h_63 a0 1 ∧ ∃ b68 : Nat, hfR h_63 a0 0 = some b68 ∧ okA h_63 b68 3 ∧ ∃ b71 : Nat, hfR h_63 b68 2 = some b71 ∧ okI h_63 b71 x2_63 ∧ jn (fun (x1_90 : Int) (h_90 : AH) => inR (x2_63 + (-1)) ∧ ∀ x2_90 : Int, x2_90 = (x2_63 + (-1)) → ∃ m, m < n_63 ∧ I_63 m x1_90 x2_90 h_90) (fun k_90 : Int → AH → Prop => ((¬ (haI h_63 b71 x2_63) = (4 : Int)) → k_90 x1_63 h_63) ∧ (((haI h_63 b71 x2_63) = (4 : Int)) → inR (x1_63 + 1) ∧ ∀ x1_80 : Int, x1_80 = (x1_63 + 1) → okA h_63 a0 1 ∧ ∃ b84 : Nat, hfR h_63 a0 3 = some b84 ∧ okW h_63 b84 x2_63 ∧ ∀ h89 : AH, h89 = saI h_63 b84 (u1 (haI h_63 b84) x2_63 x1_80) → k_90 x1_80 h89)))))))
set_option maxRecDepth 100000 in
set_option maxHeartbeats 4000000 in
theorem met_X1_work (G : GG) (l : Launch) : ∀ (As : List Value) (a0 : Nat) (h : AH) (Q : AH → Prop), As.map ab = List.map some ([vR a0] : List AV) → w_X1_work G.2.2 a0 h Q → Met l yX1_work (.code yX1_work cX1_work 3 none :: xTb) ({ frames := 4, cells := 0, slots := 0, locals := 94 } : Room) (PcA G As h) (QG G (oV Q)) 0 0 (frA G) := by
  intro As a0 h Q hA hw
  refine met_of hA (by decide) (Nat.le_of_ble_eq_true rfl) (fun p e s m args below meth c C hml hr hnm => ?_)
  unfold w_X1_work at hw
  refine aw_aload_n (pc := 0) C dX1_work_0 rfl rfl ?_
  obtain ⟨hp9, b1, hb9, hw⟩ := hw
  refine aw_getR (pc := 1) C (ci := 1) (k := 0) ci1 (by decide) tw169 dX1_work_1 rfl hp9 hb9 ?_
  obtain ⟨hp9, hw⟩ := hw
  refine aw_callV (pc := 4) (as := []) C ci3 (fun As hA => met_X3_work G l As b1 _ _ hA hw) tw323 tw324 tw325 tw7 tw326 ⟨rfl, rfl⟩ ⟨rfl, by decide, by decide, pd_X3_work⟩ ⟨Nat.le_of_ble_eq_true rfl, Nat.le_of_ble_eq_true rfl⟩ ⟨Nat.zero_le _, Nat.zero_le _⟩ (Nat.le_of_ble_eq_true rfl) dX1_work_4 rfl hp9 (fun v9 h4 hq9 => ?_)
  obtain ⟨rfl, hw⟩ := hq9
  refine aw_aload_n (pc := 7) C dX1_work_7 rfl rfl ?_
  obtain ⟨hp9, b8, hb9, hw⟩ := hw
  refine aw_getR (pc := 8) C (ci := 1) (k := 1) ci1 (by decide) tw171 dX1_work_8 rfl hp9 hb9 ?_
  obtain ⟨hp9, hw⟩ := hw
  refine aw_callV (pc := 11) (as := []) C ci2 (fun As hA => met_X2_work G l As b8 _ _ hA hw) tw382 tw383 tw384 tw8 tw385 ⟨rfl, rfl⟩ ⟨rfl, by decide, by decide, pd_X2_work⟩ ⟨Nat.le_of_ble_eq_true rfl, Nat.le_of_ble_eq_true rfl⟩ ⟨Nat.zero_le _, Nat.zero_le _⟩ (Nat.le_of_ble_eq_true rfl) dX1_work_11 rfl hp9 (fun v9 h11 hq9 => ?_)
  obtain ⟨rfl, hw⟩ := hq9
  refine aw_aload_n (pc := 14) C dX1_work_14 rfl rfl ?_
  refine aw_aload_n (pc := 15) C dX1_work_15 rfl rfl ?_
  obtain ⟨hp9, b16, hb9, hw⟩ := hw
  refine aw_getR (pc := 16) C (ci := 1) (k := 2) ci1 (by decide) tw172 dX1_work_16 rfl hp9 hb9 ?_
  obtain ⟨hp9, b19, hb9, hw⟩ := hw
  refine aw_getR (pc := 19) C (ci := 4) (k := 0) ci4 (by decide) tw64 dX1_work_19 rfl hp9 hb9 ?_
  refine aw_bipush (pc := 22) C dX1_work_22 (i := (6 : Int)) (by decide) ?_
  obtain ⟨⟨k9, hp9⟩, hw⟩ := hw
  refine aw_iald (pc := 24) C dX1_work_24 hp9 ?_
  refine aw_aload_n (pc := 25) C dX1_work_25 rfl rfl ?_
  obtain ⟨hp9, b26, hb9, hw⟩ := hw
  refine aw_getR (pc := 26) C (ci := 1) (k := 0) ci1 (by decide) tw169 dX1_work_26 rfl hp9 hb9 ?_
  obtain ⟨hp9, b29, hb9, hw⟩ := hw
  refine aw_getR (pc := 29) C (ci := 3) (k := 4) ci3 (by decide) tw100 dX1_work_29 rfl hp9 hb9 ?_
  refine aw_iconst (pc := 32) C dX1_work_32 (i := (4 : Int)) (by decide) ?_
  obtain ⟨⟨k9, hp9⟩, hw⟩ := hw
  refine aw_iald (pc := 33) C dX1_work_33 hp9 ?_
  obtain ⟨hp9, hw⟩ := hw
  refine aw_iadd (pc := 34) C dX1_work_34 hp9 ?_
  obtain ⟨hp9, hw⟩ := hw
  refine aw_putI (pc := 35) C (ci := 1) (k := 8) ci1 (by decide) tw178 (Or.inl rfl) dX1_work_35 rfl hp9 (aw_nmH (fun h35 e9 => ?_))
  have hw := hw h35 e9
  refine aw_aload_n (pc := 38) C dX1_work_38 rfl rfl ?_
  obtain ⟨hp9, b39, hb9, hw⟩ := hw
  refine aw_getR (pc := 39) C (ci := 1) (k := 2) ci1 (by decide) tw172 dX1_work_39 rfl hp9 hb9 ?_
  obtain ⟨hp9, b42, hb9, hw⟩ := hw
  refine aw_getR (pc := 42) C (ci := 4) (k := 0) ci4 (by decide) tw64 dX1_work_42 rfl hp9 hb9 ?_
  refine aw_bipush (pc := 45) C dX1_work_45 (i := (6 : Int)) (by decide) ?_
  obtain ⟨⟨k9, hp9⟩, hw⟩ := hw
  refine aw_iald (pc := 47) C dX1_work_47 hp9 ?_
  refine aw_nmI (fun x1_48 e9 => ?_)
  have hw := hw x1_48 e9
  refine aw_istore_n (pc := 48) C dX1_work_48 rfl (by rw [hml]; decide) ?_
  refine aw_aload_n (pc := 49) C dX1_work_49 rfl rfl ?_
  obtain ⟨hp9, b50, hb9, hw⟩ := hw
  refine aw_getR (pc := 50) C (ci := 1) (k := 2) ci1 (by decide) tw172 dX1_work_50 rfl hp9 hb9 ?_
  refine aw_iconst (pc := 53) C dX1_work_53 (i := (0 : Int)) (by decide) ?_
  obtain ⟨hp9, hw⟩ := hw
  refine aw_callV (pc := 54) (as := [vI (0 : Int)]) C ci4 (fun As hA => met_X4_text G l As b50 (0 : Int) _ _ hA hw) tw414 tw333 tw334 tw2 tw335 ⟨rfl, rfl⟩ ⟨rfl, by decide, by decide, pd_X4_text⟩ ⟨Nat.le_of_ble_eq_true rfl, Nat.le_of_ble_eq_true rfl⟩ ⟨Nat.zero_le _, Nat.zero_le _⟩ (Nat.le_of_ble_eq_true rfl) dX1_work_54 rfl hp9 (fun v9 h54 hq9 => ?_)
  obtain ⟨r54, rfl, hw⟩ := hq9
  obtain ⟨hp9, hw⟩ := hw
  refine aw_getI (pc := 57) C (ci := 5) (k := 2) ci5 (by decide) tw46 dX1_work_57 rfl hp9 ?_
  refine aw_iconst (pc := 60) C dX1_work_60 (i := (1 : Int)) (by decide) ?_
  obtain ⟨hp9, hw⟩ := hw
  refine aw_isub (pc := 61) C dX1_work_61 hp9 ?_
  refine aw_nmI (fun x2_62 e9 => ?_)
  have hw := hw x2_62 e9
  refine aw_istore_n (pc := 62) C dX1_work_62 rfl (by rw [hml]; decide) ?_
  obtain ⟨I_63, ⟨n9, hi9⟩, hst9⟩ := hw
  have L_63 : ∀ (n_63 : Nat) (x1_63 : Int) (x2_63 : Int) (h_63 : AH), I_63 n_63 x1_63 x2_63 h_63 → AW G p l e ({ frames := 4, cells := 0, slots := 0, locals := 94 } : Room) s m args below meth c 0 0 (MQ below (QG G (oV Q)) args s 0 0 (frA G)) 63 (eOf [(0, vR a0), (1, vI x1_63), (2, vI x2_63)]) [] h_63 := by
    intro n_63
    induction n_63 using Nat.strongRecOn with
    | _ n_63 ih_63 =>
    intro x1_63 x2_63 h_63 hi9
    have hw := hst9 n_63 x1_63 x2_63 h_63 hi9
    refine aw_iload_n (pc := 63) C dX1_work_63 rfl rfl ?_
    refine aw_if_lt (pc := 64) (tgt := 96) C dX1_work_64 (by decide) (fun hc9 => ?_) (fun hc9 => ?_)
    · have hw := hw.1 hc9
      refine aw_aload_n (pc := 96) C dX1_work_96 rfl rfl ?_
      obtain ⟨hp9, hw⟩ := hw
      refine aw_getI (pc := 97) C (ci := 1) (k := 8) ci1 (by decide) tw178 dX1_work_97 rfl hp9 ?_
      refine aw_aload_n (pc := 100) C dX1_work_100 rfl rfl ?_
      obtain ⟨hp9, b101, hb9, hw⟩ := hw
      refine aw_getR (pc := 101) C (ci := 1) (k := 1) ci1 (by decide) tw171 dX1_work_101 rfl hp9 hb9 ?_
      obtain ⟨hp9, hw⟩ := hw
      refine aw_getI (pc := 104) C (ci := 2) (k := 3) ci2 (by decide) tw131 dX1_work_104 rfl hp9 ?_
      obtain ⟨hp9, hw⟩ := hw
      refine aw_iadd (pc := 107) C dX1_work_107 hp9 ?_
      refine aw_nmI (fun x1_108 e9 => ?_)
      have hw := hw x1_108 e9
      refine aw_istore_n (pc := 108) C dX1_work_108 rfl (by rw [hml]; decide) ?_
      refine aw_iconst (pc := 109) C dX1_work_109 (i := (0 : Int)) (by decide) ?_
      refine aw_istore_n (pc := 110) C dX1_work_110 rfl (by rw [hml]; decide) ?_
      obtain ⟨I_111, ⟨n9, hi9⟩, hst9⟩ := hw
      have L_111 : ∀ (n_111 : Nat) (x1_111 : Int) (x2_111 : Int) (h_111 : AH), I_111 n_111 x1_111 x2_111 h_111 → AW G p l e ({ frames := 4, cells := 0, slots := 0, locals := 94 } : Room) s m args below meth c 0 0 (MQ below (QG G (oV Q)) args s 0 0 (frA G)) 111 (eOf [(0, vR a0), (1, vI x1_111), (2, vI x2_111)]) [] h_111 := by
        intro n_111
        induction n_111 using Nat.strongRecOn with
        | _ n_111 ih_111 =>
        intro x1_111 x2_111 h_111 hi9
        have hw := hst9 n_111 x1_111 x2_111 h_111 hi9
        refine aw_iload_n (pc := 111) C dX1_work_111 rfl rfl ?_
        refine aw_aload_n (pc := 112) C dX1_work_112 rfl rfl ?_
        obtain ⟨hp9, b113, hb9, hw⟩ := hw
        refine aw_getR (pc := 113) C (ci := 1) (k := 2) ci1 (by decide) tw172 dX1_work_113 rfl hp9 hb9 ?_
        refine aw_iconst (pc := 116) C dX1_work_116 (i := (1 : Int)) (by decide) ?_
        obtain ⟨hp9, hw⟩ := hw
        refine aw_callV (pc := 117) (as := [vI (1 : Int)]) C ci4 (fun As hA => met_X4_text G l As b113 (1 : Int) _ _ hA hw) tw414 tw333 tw334 tw2 tw335 ⟨rfl, rfl⟩ ⟨rfl, by decide, by decide, pd_X4_text⟩ ⟨Nat.le_of_ble_eq_true rfl, Nat.le_of_ble_eq_true rfl⟩ ⟨Nat.zero_le _, Nat.zero_le _⟩ (Nat.le_of_ble_eq_true rfl) dX1_work_117 rfl hp9 (fun v9 h117 hq9 => ?_)
        obtain ⟨r117, rfl, hw⟩ := hq9
        obtain ⟨hp9, hw⟩ := hw
        refine aw_getI (pc := 120) C (ci := 5) (k := 2) ci5 (by decide) tw46 dX1_work_120 rfl hp9 ?_
        refine aw_icmp_ge (pc := 123) (tgt := 155) C dX1_work_123 (by decide) (fun hc9 => ?_) (fun hc9 => ?_)
        · have hw := hw.1 hc9
          exact aw_vret (pc := 155) C hr dX1_work_155 ⟨Nat.le_of_ble_eq_true rfl, Nat.le_of_ble_eq_true rfl⟩ ⟨rfl, hw⟩
        · have hw := hw.2 hc9
          refine aw_aload_n (pc := 126) C dX1_work_126 rfl rfl ?_
          obtain ⟨hp9, b127, hb9, hw⟩ := hw
          refine aw_getR (pc := 127) C (ci := 1) (k := 0) ci1 (by decide) tw169 dX1_work_127 rfl hp9 hb9 ?_
          obtain ⟨hp9, b130, hb9, hw⟩ := hw
          refine aw_getR (pc := 130) C (ci := 3) (k := 3) ci3 (by decide) tw97 dX1_work_130 rfl hp9 hb9 ?_
          refine aw_iload_n (pc := 133) C dX1_work_133 rfl rfl ?_
          obtain ⟨⟨k9, hp9⟩, hw⟩ := hw
          refine aw_iald (pc := 134) C dX1_work_134 hp9 ?_
          refine aw_iconst (pc := 135) C dX1_work_135 (i := (5 : Int)) (by decide) ?_
          obtain ⟨k_149, hk_149, hw⟩ := jn_out hw
          have J_149 : ∀ (x1_149 : Int) (h_149 : AH), k_149 x1_149 h_149 → AW G p l e ({ frames := 4, cells := 0, slots := 0, locals := 94 } : Room) s m args below meth c 0 0 (MQ below (QG G (oV Q)) args s 0 0 (frA G)) 149 (eOf [(0, vR a0), (1, vI x1_149), (2, vI x2_111)]) [] h_149 := by
            intro x1_149 h_149 hw
            rw [hk_149] at hw
            obtain ⟨hp9, hw⟩ := hw
            refine aw_iincN (pc := 149) C dX1_work_149 (k := 1) (by decide) rfl (by rw [hml]; decide) hp9 (fun x2_149 e9 => ?_)
            have hw := hw x2_149 e9
            refine aw_goto (pc := 152) (tgt := 111) C dX1_work_152 (by decide) ?_
            obtain ⟨m9, hm9, hw⟩ := hw
            refine aw_sub [(0, vR a0), (1, vI x1_149), (2, vI x2_149)] ⟨rfl, rfl, rfl, trivial⟩ ?_
            exact ih_111 m9 hm9 _ _ _ hw
          refine aw_icmp_ne (pc := 136) (tgt := 149) C dX1_work_136 (by decide) (fun hc9 => ?_) (fun hc9 => ?_)
          · have hw := hw.1 hc9
            refine aw_sub [(0, vR a0), (1, vI x1_111), (2, vI x2_111)] ⟨rfl, rfl, rfl, trivial⟩ ?_
            exact J_149 _ _ hw
          · have hw := hw.2 hc9
            obtain ⟨hp9, hw⟩ := hw
            refine aw_iincN (pc := 139) C dX1_work_139 (k := 1) (by decide) rfl (by rw [hml]; decide) hp9 (fun x1_139 e9 => ?_)
            have hw := hw x1_139 e9
            refine aw_aload_n (pc := 142) C dX1_work_142 rfl rfl ?_
            obtain ⟨hp9, b143, hb9, hw⟩ := hw
            refine aw_getR (pc := 143) C (ci := 1) (k := 4) ci1 (by decide) tw174 dX1_work_143 rfl hp9 hb9 ?_
            refine aw_iload_n (pc := 146) C dX1_work_146 rfl rfl ?_
            refine aw_iload_n (pc := 147) C dX1_work_147 rfl rfl ?_
            obtain ⟨⟨k9, hp9⟩, hw⟩ := hw
            refine aw_iast (pc := 148) C dX1_work_148 hp9 (aw_nmH (fun h148 e9 => ?_))
            have hw := hw h148 e9
            refine aw_sub [(0, vR a0), (1, vI x1_139), (2, vI x2_111)] ⟨rfl, rfl, rfl, trivial⟩ ?_
            exact J_149 _ _ hw
      refine aw_sub [(0, vR a0), (1, vI x1_108), (2, vI (0 : Int))] ⟨rfl, rfl, rfl, trivial⟩ ?_
      exact L_111 n9 _ _ _ hi9
    · have hw := hw.2 hc9
      refine aw_aload_n (pc := 67) C dX1_work_67 rfl rfl ?_
      obtain ⟨hp9, b68, hb9, hw⟩ := hw
      refine aw_getR (pc := 68) C (ci := 1) (k := 0) ci1 (by decide) tw169 dX1_work_68 rfl hp9 hb9 ?_
      obtain ⟨hp9, b71, hb9, hw⟩ := hw
      refine aw_getR (pc := 71) C (ci := 3) (k := 2) ci3 (by decide) tw95 dX1_work_71 rfl hp9 hb9 ?_
      refine aw_iload_n (pc := 74) C dX1_work_74 rfl rfl ?_
      obtain ⟨⟨k9, hp9⟩, hw⟩ := hw
      refine aw_iald (pc := 75) C dX1_work_75 hp9 ?_
      refine aw_iconst (pc := 76) C dX1_work_76 (i := (4 : Int)) (by decide) ?_
      obtain ⟨k_90, hk_90, hw⟩ := jn_out hw
      have J_90 : ∀ (x1_90 : Int) (h_90 : AH), k_90 x1_90 h_90 → AW G p l e ({ frames := 4, cells := 0, slots := 0, locals := 94 } : Room) s m args below meth c 0 0 (MQ below (QG G (oV Q)) args s 0 0 (frA G)) 90 (eOf [(0, vR a0), (1, vI x1_90), (2, vI x2_63)]) [] h_90 := by
        intro x1_90 h_90 hw
        rw [hk_90] at hw
        obtain ⟨hp9, hw⟩ := hw
        refine aw_iincN (pc := 90) C dX1_work_90 (k := (-1)) (by decide) rfl (by rw [hml]; decide) hp9 (fun x2_90 e9 => ?_)
        have hw := hw x2_90 e9
        refine aw_goto (pc := 93) (tgt := 63) C dX1_work_93 (by decide) ?_
        obtain ⟨m9, hm9, hw⟩ := hw
        refine aw_sub [(0, vR a0), (1, vI x1_90), (2, vI x2_90)] ⟨rfl, rfl, rfl, trivial⟩ ?_
        exact ih_63 m9 hm9 _ _ _ hw
      refine aw_icmp_ne (pc := 77) (tgt := 90) C dX1_work_77 (by decide) (fun hc9 => ?_) (fun hc9 => ?_)
      · have hw := hw.1 hc9
        refine aw_sub [(0, vR a0), (1, vI x1_63), (2, vI x2_63)] ⟨rfl, rfl, rfl, trivial⟩ ?_
        exact J_90 _ _ hw
      · have hw := hw.2 hc9
        obtain ⟨hp9, hw⟩ := hw
        refine aw_iincN (pc := 80) C dX1_work_80 (k := 1) (by decide) rfl (by rw [hml]; decide) hp9 (fun x1_80 e9 => ?_)
        have hw := hw x1_80 e9
        refine aw_aload_n (pc := 83) C dX1_work_83 rfl rfl ?_
        obtain ⟨hp9, b84, hb9, hw⟩ := hw
        refine aw_getR (pc := 84) C (ci := 1) (k := 3) ci1 (by decide) tw173 dX1_work_84 rfl hp9 hb9 ?_
        refine aw_iload_n (pc := 87) C dX1_work_87 rfl rfl ?_
        refine aw_iload_n (pc := 88) C dX1_work_88 rfl rfl ?_
        obtain ⟨⟨k9, hp9⟩, hw⟩ := hw
        refine aw_iast (pc := 89) C dX1_work_89 hp9 (aw_nmH (fun h89 e9 => ?_))
        have hw := hw h89 e9
        refine aw_sub [(0, vR a0), (1, vI x1_80), (2, vI x2_63)] ⟨rfl, rfl, rfl, trivial⟩ ?_
        exact J_90 _ _ hw
  refine aw_sub [(0, vR a0), (1, vI x1_48), (2, vI x2_62)] ⟨rfl, rfl, rfl, trivial⟩ ?_
  exact L_63 n9 _ _ _ hi9
theorem dX1_vanishes_0 : decode cX1_vanishes 0 = .ok (.aload_n 0, 1) := by decide +kernel
theorem dX1_vanishes_1 : decode cX1_vanishes 1 = .ok (.getfield 40, 3) := by decide +kernel
theorem dX1_vanishes_4 : decode cX1_vanishes 4 = .ok (.getfield 74, 3) := by decide +kernel
theorem dX1_vanishes_7 : decode cX1_vanishes 7 = .ok (.iload_n 1, 1) := by decide +kernel
theorem dX1_vanishes_8 : decode cX1_vanishes 8 = .ok (.iaload, 1) := by decide +kernel
theorem dX1_vanishes_9 : decode cX1_vanishes 9 = .ok (.iconst 4, 1) := by decide +kernel
theorem dX1_vanishes_10 : decode cX1_vanishes 10 = .ok (.if_icmp .ne 7, 3) := by decide +kernel
theorem dX1_vanishes_13 : decode cX1_vanishes 13 = .ok (.iconst 1, 1) := by decide +kernel
theorem dX1_vanishes_14 : decode cX1_vanishes 14 = .ok (.goto 4, 3) := by decide +kernel
theorem dX1_vanishes_17 : decode cX1_vanishes 17 = .ok (.iconst 0, 1) := by decide +kernel
theorem dX1_vanishes_18 : decode cX1_vanishes 18 = .ok (.ireturn, 1) := by decide +kernel
theorem pd_X1_vanishes : (parseMethodDescriptor yX1_vanishes.desc).map (fun d => d.parameters.length) = some 1 := by decide +kernel
def w_X1_vanishes (zz : Nat → Nat) (a0 : Nat) (a1 : Int) (h : AH) (Q : Int → AH → Prop) : Prop := okA h a0 1 ∧ ∃ b1 : Nat, hfR h a0 0 = some b1 ∧ okA h b1 3 ∧ ∃ b4 : Nat, hfR h b1 2 = some b4 ∧ okI h b4 a1 ∧ jn (fun (t0_18 : Int) (h_18 : AH) => (t0_18 = 0 ∨ t0_18 = 1) ∧ Q t0_18 h_18) (fun k_18 : Int → AH → Prop => ((¬ (haI h b4 a1) = (4 : Int)) → k_18 (0 : Int) h) ∧ (((haI h b4 a1) = (4 : Int)) → k_18 (1 : Int) h))
set_option maxRecDepth 100000 in
set_option maxHeartbeats 4000000 in
theorem met_X1_vanishes (G : GG) (l : Launch) : ∀ (As : List Value) (a0 : Nat) (a1 : Int) (h : AH) (Q : Int → AH → Prop), As.map ab = List.map some ([vR a0, vI a1] : List AV) → w_X1_vanishes G.2.2 a0 a1 h Q → Met l yX1_vanishes (.code yX1_vanishes cX1_vanishes 2 (some .boolean) :: xTb) ({ frames := 0, cells := 0, slots := 0, locals := 0 } : Room) (PcA G As h) (QG G (oI Q)) 0 0 (frA G) := by
  intro As a0 a1 h Q hA hw
  refine met_of hA (by decide) (Nat.le_of_ble_eq_true rfl) (fun p e s m args below meth c C hml hr hnm => ?_)
  unfold w_X1_vanishes at hw
  refine aw_aload_n (pc := 0) C dX1_vanishes_0 rfl rfl ?_
  obtain ⟨hp9, b1, hb9, hw⟩ := hw
  refine aw_getR (pc := 1) C (ci := 1) (k := 0) ci1 (by decide) tw169 dX1_vanishes_1 rfl hp9 hb9 ?_
  obtain ⟨hp9, b4, hb9, hw⟩ := hw
  refine aw_getR (pc := 4) C (ci := 3) (k := 2) ci3 (by decide) tw95 dX1_vanishes_4 rfl hp9 hb9 ?_
  refine aw_iload_n (pc := 7) C dX1_vanishes_7 rfl rfl ?_
  obtain ⟨⟨k9, hp9⟩, hw⟩ := hw
  refine aw_iald (pc := 8) C dX1_vanishes_8 hp9 ?_
  refine aw_iconst (pc := 9) C dX1_vanishes_9 (i := (4 : Int)) (by decide) ?_
  obtain ⟨k_18, hk_18, hw⟩ := jn_out hw
  have J_18 : ∀ (t0_18 : Int) (h_18 : AH), k_18 t0_18 h_18 → AW G p l e ({ frames := 0, cells := 0, slots := 0, locals := 0 } : Room) s m args below meth c 0 0 (MQ below (QG G (oI Q)) args s 0 0 (frA G)) 18 (eOf []) [vI t0_18] h_18 := by
    intro t0_18 h_18 hw
    rw [hk_18] at hw
    obtain ⟨hp9, hw⟩ := hw
    exact aw_zret (pc := 18) C hr dX1_vanishes_18 ⟨Nat.le_of_ble_eq_true rfl, Nat.le_of_ble_eq_true rfl⟩ hp9 ⟨_, rfl, hw⟩
  refine aw_icmp_ne (pc := 10) (tgt := 17) C dX1_vanishes_10 (by decide) (fun hc9 => ?_) (fun hc9 => ?_)
  · have hw := hw.1 hc9
    refine aw_iconst (pc := 17) C dX1_vanishes_17 (i := (0 : Int)) (by decide) ?_
    refine aw_sub [] trivial ?_
    exact J_18 _ _ hw
  · have hw := hw.2 hc9
    refine aw_iconst (pc := 13) C dX1_vanishes_13 (i := (1 : Int)) (by decide) ?_
    refine aw_goto (pc := 14) (tgt := 18) C dX1_vanishes_14 (by decide) ?_
    refine aw_sub [] trivial ?_
    exact J_18 _ _ hw
theorem dX1_distancesOfAll_0 : decode cX1_distancesOfAll 0 = .ok (.iconst 0, 1) := by decide +kernel
theorem dX1_distancesOfAll_1 : decode cX1_distancesOfAll 1 = .ok (.istore_n 1, 1) := by decide +kernel
theorem dX1_distancesOfAll_2 : decode cX1_distancesOfAll 2 = .ok (.iconst 0, 1) := by decide +kernel
theorem dX1_distancesOfAll_3 : decode cX1_distancesOfAll 3 = .ok (.istore_n 2, 1) := by decide +kernel
theorem dX1_distancesOfAll_4 : decode cX1_distancesOfAll 4 = .ok (.iload_n 2, 1) := by decide +kernel
theorem dX1_distancesOfAll_5 : decode cX1_distancesOfAll 5 = .ok (.aload_n 0, 1) := by decide +kernel
theorem dX1_distancesOfAll_6 : decode cX1_distancesOfAll 6 = .ok (.getfield 31, 3) := by decide +kernel
theorem dX1_distancesOfAll_9 : decode cX1_distancesOfAll 9 = .ok (.iconst 0, 1) := by decide +kernel
theorem dX1_distancesOfAll_10 : decode cX1_distancesOfAll 10 = .ok (.invokevirtual 65, 3) := by decide +kernel
theorem dX1_distancesOfAll_13 : decode cX1_distancesOfAll 13 = .ok (.getfield 69, 3) := by decide +kernel
theorem dX1_distancesOfAll_16 : decode cX1_distancesOfAll 16 = .ok (.if_icmp .ge 41, 3) := by decide +kernel
theorem dX1_distancesOfAll_19 : decode cX1_distancesOfAll 19 = .ok (.iload_n 1, 1) := by decide +kernel
theorem dX1_distancesOfAll_20 : decode cX1_distancesOfAll 20 = .ok (.aload_n 0, 1) := by decide +kernel
theorem dX1_distancesOfAll_21 : decode cX1_distancesOfAll 21 = .ok (.iload_n 2, 1) := by decide +kernel
theorem dX1_distancesOfAll_22 : decode cX1_distancesOfAll 22 = .ok (.invokevirtual 121, 3) := by decide +kernel
theorem dX1_distancesOfAll_25 : decode cX1_distancesOfAll 25 = .ok (.ifCond .eq 7, 3) := by decide +kernel
theorem dX1_distancesOfAll_28 : decode cX1_distancesOfAll 28 = .ok (.iconst 0, 1) := by decide +kernel
theorem dX1_distancesOfAll_29 : decode cX1_distancesOfAll 29 = .ok (.goto 20, 3) := by decide +kernel
theorem dX1_distancesOfAll_32 : decode cX1_distancesOfAll 32 = .ok (.aload_n 0, 1) := by decide +kernel
theorem dX1_distancesOfAll_33 : decode cX1_distancesOfAll 33 = .ok (.getfield 40, 3) := by decide +kernel
theorem dX1_distancesOfAll_36 : decode cX1_distancesOfAll 36 = .ok (.iload_n 2, 1) := by decide +kernel
theorem dX1_distancesOfAll_37 : decode cX1_distancesOfAll 37 = .ok (.aload_n 0, 1) := by decide +kernel
theorem dX1_distancesOfAll_38 : decode cX1_distancesOfAll 38 = .ok (.getfield 40, 3) := by decide +kernel
theorem dX1_distancesOfAll_41 : decode cX1_distancesOfAll 41 = .ok (.getfield 95, 3) := by decide +kernel
theorem dX1_distancesOfAll_44 : decode cX1_distancesOfAll 44 = .ok (.iload_n 2, 1) := by decide +kernel
theorem dX1_distancesOfAll_45 : decode cX1_distancesOfAll 45 = .ok (.iaload, 1) := by decide +kernel
theorem dX1_distancesOfAll_46 : decode cX1_distancesOfAll 46 = .ok (.invokevirtual 111, 3) := by decide +kernel
theorem dX1_distancesOfAll_49 : decode cX1_distancesOfAll 49 = .ok (.iadd, 1) := by decide +kernel
theorem dX1_distancesOfAll_50 : decode cX1_distancesOfAll 50 = .ok (.istore_n 1, 1) := by decide +kernel
theorem dX1_distancesOfAll_51 : decode cX1_distancesOfAll 51 = .ok (.iinc 2 1, 3) := by decide +kernel
theorem dX1_distancesOfAll_54 : decode cX1_distancesOfAll 54 = .ok (.goto (-50), 3) := by decide +kernel
theorem dX1_distancesOfAll_57 : decode cX1_distancesOfAll 57 = .ok (.iload_n 1, 1) := by decide +kernel
theorem dX1_distancesOfAll_58 : decode cX1_distancesOfAll 58 = .ok (.ireturn, 1) := by decide +kernel
theorem pd_X1_distancesOfAll : (parseMethodDescriptor yX1_distancesOfAll.desc).map (fun d => d.parameters.length) = some 0 := by decide +kernel
def w_X1_distancesOfAll (zz : Nat → Nat) (a0 : Nat) (h : AH) (Q : Int → AH → Prop) : Prop := ∃ I_4 : Nat → Int → Int → AH → Prop, (∃ n, I_4 n (0 : Int) (0 : Int) h) ∧ ∀ (n_4 : Nat) (x1_4 : Int) (x2_4 : Int) (h_4 : AH), I_4 n_4 x1_4 x2_4 h_4 → (okA h_4 a0 1 ∧ ∃ b6 : Nat, hfR h_4 a0 2 = some b6 ∧ okA h_4 b6 4 ∧ w_X4_text zz b6 (0 : Int) h_4 (fun (r10 : Nat) (h10 : AH) => okA h10 r10 5 ∧ (((hfI h10 r10 2) ≤ x2_4) → Q x1_4 h10) ∧ ((¬ ((hfI h10 r10 2) ≤ x2_4)) → okA h10 a0 1 ∧ w_X1_vanishes zz a0 x2_4 h10 (fun (r22 : Int) (h22 : AH) => jn (fun (t1_49 : Int) (h_49 : AH) => inR (x1_4 + t1_49) ∧ ∀ x1_50 : Int, x1_50 = (x1_4 + t1_49) → inR (x2_4 + 1) ∧ ∀ x2_51 : Int, x2_51 = (x2_4 + 1) → ∃ m, m < n_4 ∧ I_4 m x1_50 x2_51 h_49) (fun k_49 : Int → AH → Prop => ((r22 = 0) → okA h22 a0 1 ∧ ∃ b33 : Nat, hfR h22 a0 0 = some b33 ∧ okA h22 a0 1 ∧ ∃ b38 : Nat, hfR h22 a0 0 = some b38 ∧ okA h22 b38 3 ∧ ∃ b41 : Nat, hfR h22 b38 0 = some b41 ∧ okI h22 b41 x2_4 ∧ okA h22 b33 3 ∧ w_X3_distance zz b33 x2_4 (haI h22 b41 x2_4) h22 (fun (r46 : Int) (h46 : AH) => k_49 r46 h46)) ∧ ((¬ (r22 = 0)) → k_49 (0 : Int) h22))))))
set_option maxRecDepth 100000 in
set_option maxHeartbeats 4000000 in
theorem met_X1_distancesOfAll (G : GG) (l : Launch) : ∀ (As : List Value) (a0 : Nat) (h : AH) (Q : Int → AH → Prop), As.map ab = List.map some ([vR a0] : List AV) → w_X1_distancesOfAll G.2.2 a0 h Q → Met l yX1_distancesOfAll (.code yX1_distancesOfAll cX1_distancesOfAll 3 (some .int) :: xTb) ({ frames := 2, cells := 0, slots := 0, locals := 45 } : Room) (PcA G As h) (QG G (oI Q)) 0 0 (frA G) := by
  intro As a0 h Q hA hw
  refine met_of hA (by decide) (Nat.le_of_ble_eq_true rfl) (fun p e s m args below meth c C hml hr hnm => ?_)
  unfold w_X1_distancesOfAll at hw
  refine aw_iconst (pc := 0) C dX1_distancesOfAll_0 (i := (0 : Int)) (by decide) ?_
  refine aw_istore_n (pc := 1) C dX1_distancesOfAll_1 rfl (by rw [hml]; decide) ?_
  refine aw_iconst (pc := 2) C dX1_distancesOfAll_2 (i := (0 : Int)) (by decide) ?_
  refine aw_istore_n (pc := 3) C dX1_distancesOfAll_3 rfl (by rw [hml]; decide) ?_
  obtain ⟨I_4, ⟨n9, hi9⟩, hst9⟩ := hw
  have L_4 : ∀ (n_4 : Nat) (x1_4 : Int) (x2_4 : Int) (h_4 : AH), I_4 n_4 x1_4 x2_4 h_4 → AW G p l e ({ frames := 2, cells := 0, slots := 0, locals := 45 } : Room) s m args below meth c 0 0 (MQ below (QG G (oI Q)) args s 0 0 (frA G)) 4 (eOf [(0, vR a0), (1, vI x1_4), (2, vI x2_4)]) [] h_4 := by
    intro n_4
    induction n_4 using Nat.strongRecOn with
    | _ n_4 ih_4 =>
    intro x1_4 x2_4 h_4 hi9
    have hw := hst9 n_4 x1_4 x2_4 h_4 hi9
    refine aw_iload_n (pc := 4) C dX1_distancesOfAll_4 rfl rfl ?_
    refine aw_aload_n (pc := 5) C dX1_distancesOfAll_5 rfl rfl ?_
    obtain ⟨hp9, b6, hb9, hw⟩ := hw
    refine aw_getR (pc := 6) C (ci := 1) (k := 2) ci1 (by decide) tw172 dX1_distancesOfAll_6 rfl hp9 hb9 ?_
    refine aw_iconst (pc := 9) C dX1_distancesOfAll_9 (i := (0 : Int)) (by decide) ?_
    obtain ⟨hp9, hw⟩ := hw
    refine aw_callV (pc := 10) (as := [vI (0 : Int)]) C ci4 (fun As hA => met_X4_text G l As b6 (0 : Int) _ _ hA hw) tw414 tw333 tw334 tw2 tw335 ⟨rfl, rfl⟩ ⟨rfl, by decide, by decide, pd_X4_text⟩ ⟨Nat.le_of_ble_eq_true rfl, Nat.le_of_ble_eq_true rfl⟩ ⟨Nat.zero_le _, Nat.zero_le _⟩ (Nat.le_of_ble_eq_true rfl) dX1_distancesOfAll_10 rfl hp9 (fun v9 h10 hq9 => ?_)
    obtain ⟨r10, rfl, hw⟩ := hq9
    obtain ⟨hp9, hw⟩ := hw
    refine aw_getI (pc := 13) C (ci := 5) (k := 2) ci5 (by decide) tw46 dX1_distancesOfAll_13 rfl hp9 ?_
    refine aw_icmp_ge (pc := 16) (tgt := 57) C dX1_distancesOfAll_16 (by decide) (fun hc9 => ?_) (fun hc9 => ?_)
    · have hw := hw.1 hc9
      refine aw_iload_n (pc := 57) C dX1_distancesOfAll_57 rfl rfl ?_
      exact aw_iret (pc := 58) C hr dX1_distancesOfAll_58 ⟨Nat.le_of_ble_eq_true rfl, Nat.le_of_ble_eq_true rfl⟩ ⟨_, rfl, hw⟩
    · have hw := hw.2 hc9
      refine aw_iload_n (pc := 19) C dX1_distancesOfAll_19 rfl rfl ?_
      refine aw_aload_n (pc := 20) C dX1_distancesOfAll_20 rfl rfl ?_
      refine aw_iload_n (pc := 21) C dX1_distancesOfAll_21 rfl rfl ?_
      obtain ⟨hp9, hw⟩ := hw
      refine aw_callV (pc := 22) (as := [vI x2_4]) C ci1 (fun As hA => met_X1_vanishes G l As a0 x2_4 _ _ hA hw) tw427 tw429 (tbp 16 (n := 9) (by decide +kernel)) tw6 tw430 ⟨rfl, rfl⟩ ⟨rfl, by decide, by decide, pd_X1_vanishes⟩ ⟨Nat.le_of_ble_eq_true rfl, Nat.le_of_ble_eq_true rfl⟩ ⟨Nat.zero_le _, Nat.zero_le _⟩ (Nat.le_of_ble_eq_true rfl) dX1_distancesOfAll_22 rfl hp9 (fun v9 h22 hq9 => ?_)
      obtain ⟨r22, rfl, hw⟩ := hq9
      obtain ⟨k_49, hk_49, hw⟩ := jn_out hw
      have J_49 : ∀ (t1_49 : Int) (h_49 : AH), k_49 t1_49 h_49 → AW G p l e ({ frames := 2, cells := 0, slots := 0, locals := 45 } : Room) s m args below meth c 0 0 (MQ below (QG G (oI Q)) args s 0 0 (frA G)) 49 (eOf [(0, vR a0), (2, vI x2_4)]) [vI t1_49, vI x1_4] h_49 := by
        intro t1_49 h_49 hw
        rw [hk_49] at hw
        obtain ⟨hp9, hw⟩ := hw
        refine aw_iadd (pc := 49) C dX1_distancesOfAll_49 hp9 ?_
        refine aw_nmI (fun x1_50 e9 => ?_)
        have hw := hw x1_50 e9
        refine aw_istore_n (pc := 50) C dX1_distancesOfAll_50 rfl (by rw [hml]; decide) ?_
        obtain ⟨hp9, hw⟩ := hw
        refine aw_iincN (pc := 51) C dX1_distancesOfAll_51 (k := 1) (by decide) rfl (by rw [hml]; decide) hp9 (fun x2_51 e9 => ?_)
        have hw := hw x2_51 e9
        refine aw_goto (pc := 54) (tgt := 4) C dX1_distancesOfAll_54 (by decide) ?_
        obtain ⟨m9, hm9, hw⟩ := hw
        refine aw_sub [(0, vR a0), (1, vI x1_50), (2, vI x2_51)] ⟨rfl, rfl, rfl, trivial⟩ ?_
        exact ih_4 m9 hm9 _ _ _ hw
      refine aw_if_eq (pc := 25) (tgt := 32) C dX1_distancesOfAll_25 (by decide) (fun hc9 => ?_) (fun hc9 => ?_)
      · have hw := hw.1 hc9
        refine aw_aload_n (pc := 32) C dX1_distancesOfAll_32 rfl rfl ?_
        obtain ⟨hp9, b33, hb9, hw⟩ := hw
        refine aw_getR (pc := 33) C (ci := 1) (k := 0) ci1 (by decide) tw169 dX1_distancesOfAll_33 rfl hp9 hb9 ?_
        refine aw_iload_n (pc := 36) C dX1_distancesOfAll_36 rfl rfl ?_
        refine aw_aload_n (pc := 37) C dX1_distancesOfAll_37 rfl rfl ?_
        obtain ⟨hp9, b38, hb9, hw⟩ := hw
        refine aw_getR (pc := 38) C (ci := 1) (k := 0) ci1 (by decide) tw169 dX1_distancesOfAll_38 rfl hp9 hb9 ?_
        obtain ⟨hp9, b41, hb9, hw⟩ := hw
        refine aw_getR (pc := 41) C (ci := 3) (k := 0) ci3 (by decide) tw90 dX1_distancesOfAll_41 rfl hp9 hb9 ?_
        refine aw_iload_n (pc := 44) C dX1_distancesOfAll_44 rfl rfl ?_
        obtain ⟨⟨k9, hp9⟩, hw⟩ := hw
        refine aw_iald (pc := 45) C dX1_distancesOfAll_45 hp9 ?_
        obtain ⟨hp9, hw⟩ := hw
        refine aw_callV (pc := 46) (as := [vI x2_4, vI (haI h22 b41 x2_4)]) C ci3 (fun As hA => met_X3_distance G l As b33 x2_4 (haI h22 b41 x2_4) _ _ hA hw) tw431 tw372 tw373 tw7 tw374 ⟨rfl, rfl⟩ ⟨rfl, by decide, by decide, pd_X3_distance⟩ ⟨Nat.le_of_ble_eq_true rfl, Nat.le_of_ble_eq_true rfl⟩ ⟨Nat.zero_le _, Nat.zero_le _⟩ (Nat.le_of_ble_eq_true rfl) dX1_distancesOfAll_46 rfl hp9 (fun v9 h46 hq9 => ?_)
        obtain ⟨r46, rfl, hw⟩ := hq9
        refine aw_sub [(0, vR a0), (2, vI x2_4)] ⟨rfl, rfl, trivial⟩ ?_
        exact J_49 _ _ hw
      · have hw := hw.2 hc9
        refine aw_iconst (pc := 28) C dX1_distancesOfAll_28 (i := (0 : Int)) (by decide) ?_
        refine aw_goto (pc := 29) (tgt := 49) C dX1_distancesOfAll_29 (by decide) ?_
        refine aw_sub [(0, vR a0), (2, vI x2_4)] ⟨rfl, rfl, trivial⟩ ?_
        exact J_49 _ _ hw
  refine aw_sub [(0, vR a0), (1, vI (0 : Int)), (2, vI (0 : Int))] ⟨rfl, rfl, rfl, trivial⟩ ?_
  exact L_4 n9 _ _ _ hi9
theorem dX1_steps_0 : decode cX1_steps 0 = .ok (.aload_n 0, 1) := by decide +kernel
theorem dX1_steps_1 : decode cX1_steps 1 = .ok (.getfield 40, 3) := by decide +kernel
theorem dX1_steps_4 : decode cX1_steps 4 = .ok (.getfield 95, 3) := by decide +kernel
theorem dX1_steps_7 : decode cX1_steps 7 = .ok (.iload_n 1, 1) := by decide +kernel
theorem dX1_steps_8 : decode cX1_steps 8 = .ok (.iaload, 1) := by decide +kernel
theorem dX1_steps_9 : decode cX1_steps 9 = .ok (.istore_n 2, 1) := by decide +kernel
theorem dX1_steps_10 : decode cX1_steps 10 = .ok (.iload_n 2, 1) := by decide +kernel
theorem dX1_steps_11 : decode cX1_steps 11 = .ok (.iconst (-1), 1) := by decide +kernel
theorem dX1_steps_12 : decode cX1_steps 12 = .ok (.if_icmp .ne 5, 3) := by decide +kernel
theorem dX1_steps_15 : decode cX1_steps 15 = .ok (.iconst 0, 1) := by decide +kernel
theorem dX1_steps_16 : decode cX1_steps 16 = .ok (.ireturn, 1) := by decide +kernel
theorem dX1_steps_17 : decode cX1_steps 17 = .ok (.aload_n 0, 1) := by decide +kernel
theorem dX1_steps_18 : decode cX1_steps 18 = .ok (.getfield 31, 3) := by decide +kernel
theorem dX1_steps_21 : decode cX1_steps 21 = .ok (.iconst 0, 1) := by decide +kernel
theorem dX1_steps_22 : decode cX1_steps 22 = .ok (.invokevirtual 65, 3) := by decide +kernel
theorem dX1_steps_25 : decode cX1_steps 25 = .ok (.iload_n 1, 1) := by decide +kernel
theorem dX1_steps_26 : decode cX1_steps 26 = .ok (.invokevirtual 105, 3) := by decide +kernel
theorem dX1_steps_29 : decode cX1_steps 29 = .ok (.aload_n 0, 1) := by decide +kernel
theorem dX1_steps_30 : decode cX1_steps 30 = .ok (.getfield 31, 3) := by decide +kernel
theorem dX1_steps_33 : decode cX1_steps 33 = .ok (.iconst 1, 1) := by decide +kernel
theorem dX1_steps_34 : decode cX1_steps 34 = .ok (.invokevirtual 65, 3) := by decide +kernel
theorem dX1_steps_37 : decode cX1_steps 37 = .ok (.iload_n 2, 1) := by decide +kernel
theorem dX1_steps_38 : decode cX1_steps 38 = .ok (.invokevirtual 105, 3) := by decide +kernel
theorem dX1_steps_41 : decode cX1_steps 41 = .ok (.isub, 1) := by decide +kernel
theorem dX1_steps_42 : decode cX1_steps 42 = .ok (.invokestatic 157, 3) := by decide +kernel
theorem dX1_steps_45 : decode cX1_steps 45 = .ok (.aload_n 0, 1) := by decide +kernel
theorem dX1_steps_46 : decode cX1_steps 46 = .ok (.getfield 31, 3) := by decide +kernel
theorem dX1_steps_49 : decode cX1_steps 49 = .ok (.iconst 0, 1) := by decide +kernel
theorem dX1_steps_50 : decode cX1_steps 50 = .ok (.invokevirtual 65, 3) := by decide +kernel
theorem dX1_steps_53 : decode cX1_steps 53 = .ok (.iload_n 1, 1) := by decide +kernel
theorem dX1_steps_54 : decode cX1_steps 54 = .ok (.invokevirtual 101, 3) := by decide +kernel
theorem dX1_steps_57 : decode cX1_steps 57 = .ok (.aload_n 0, 1) := by decide +kernel
theorem dX1_steps_58 : decode cX1_steps 58 = .ok (.getfield 31, 3) := by decide +kernel
theorem dX1_steps_61 : decode cX1_steps 61 = .ok (.iconst 1, 1) := by decide +kernel
theorem dX1_steps_62 : decode cX1_steps 62 = .ok (.invokevirtual 65, 3) := by decide +kernel
theorem dX1_steps_65 : decode cX1_steps 65 = .ok (.iload_n 2, 1) := by decide +kernel
theorem dX1_steps_66 : decode cX1_steps 66 = .ok (.invokevirtual 101, 3) := by decide +kernel
theorem dX1_steps_69 : decode cX1_steps 69 = .ok (.isub, 1) := by decide +kernel
theorem dX1_steps_70 : decode cX1_steps 70 = .ok (.invokestatic 157, 3) := by decide +kernel
theorem dX1_steps_73 : decode cX1_steps 73 = .ok (.iadd, 1) := by decide +kernel
theorem dX1_steps_74 : decode cX1_steps 74 = .ok (.ireturn, 1) := by decide +kernel
theorem pd_X1_steps : (parseMethodDescriptor yX1_steps.desc).map (fun d => d.parameters.length) = some 1 := by decide +kernel
def w_X1_steps (zz : Nat → Nat) (a0 : Nat) (a1 : Int) (h : AH) (Q : Int → AH → Prop) : Prop := okA h a0 1 ∧ ∃ b1 : Nat, hfR h a0 0 = some b1 ∧ okA h b1 3 ∧ ∃ b4 : Nat, hfR h b1 0 = some b4 ∧ okI h b4 a1 ∧ ∀ x2_9 : Int, x2_9 = (haI h b4 a1) → ((¬ x2_9 = (-1 : Int)) → okA h a0 1 ∧ ∃ b18 : Nat, hfR h a0 2 = some b18 ∧ okA h b18 4 ∧ w_X4_text zz b18 (0 : Int) h (fun (r22 : Nat) (h22 : AH) => okA h22 r22 5 ∧ w_X5_columnOf zz r22 a1 h22 (fun (r26 : Int) (h26 : AH) => okA h26 a0 1 ∧ ∃ b30 : Nat, hfR h26 a0 2 = some b30 ∧ okA h26 b30 4 ∧ w_X4_text zz b30 (1 : Int) h26 (fun (r34 : Nat) (h34 : AH) => okA h34 r34 5 ∧ w_X5_columnOf zz r34 x2_9 h34 (fun (r38 : Int) (h38 : AH) => inR (r26 - r38) ∧ inR (0 - (r26 - r38)) ∧ okA h38 a0 1 ∧ ∃ b46 : Nat, hfR h38 a0 2 = some b46 ∧ okA h38 b46 4 ∧ w_X4_text zz b46 (0 : Int) h38 (fun (r50 : Nat) (h50 : AH) => okA h50 r50 5 ∧ w_X5_rowOf zz r50 a1 h50 (fun (r54 : Int) (h54 : AH) => okA h54 a0 1 ∧ ∃ b58 : Nat, hfR h54 a0 2 = some b58 ∧ okA h54 b58 4 ∧ w_X4_text zz b58 (1 : Int) h54 (fun (r62 : Nat) (h62 : AH) => okA h62 r62 5 ∧ w_X5_rowOf zz r62 x2_9 h62 (fun (r66 : Int) (h66 : AH) => inR (r54 - r66) ∧ inR (0 - (r54 - r66)) ∧ inR ((if 0 ≤ (r26 - r38) then (r26 - r38) else 0 - (r26 - r38)) + (if 0 ≤ (r54 - r66) then (r54 - r66) else 0 - (r54 - r66))) ∧ Q ((if 0 ≤ (r26 - r38) then (r26 - r38) else 0 - (r26 - r38)) + (if 0 ≤ (r54 - r66) then (r54 - r66) else 0 - (r54 - r66))) h66))))))))) ∧ ((x2_9 = (-1 : Int)) → Q (0 : Int) h)
set_option maxRecDepth 100000 in
set_option maxHeartbeats 4000000 in
theorem met_X1_steps (G : GG) (l : Launch) : ∀ (As : List Value) (a0 : Nat) (a1 : Int) (h : AH) (Q : Int → AH → Prop), As.map ab = List.map some ([vR a0, vI a1] : List AV) → w_X1_steps G.2.2 a0 a1 h Q → Met l yX1_steps (.code yX1_steps cX1_steps 3 (some .int) :: xTb) ({ frames := 1, cells := 0, slots := 0, locals := 21 } : Room) (PcA G As h) (QG G (oI Q)) 0 0 (frA G) := by
  intro As a0 a1 h Q hA hw
  refine met_of hA (by decide) (Nat.le_of_ble_eq_true rfl) (fun p e s m args below meth c C hml hr hnm => ?_)
  unfold w_X1_steps at hw
  refine aw_aload_n (pc := 0) C dX1_steps_0 rfl rfl ?_
  obtain ⟨hp9, b1, hb9, hw⟩ := hw
  refine aw_getR (pc := 1) C (ci := 1) (k := 0) ci1 (by decide) tw169 dX1_steps_1 rfl hp9 hb9 ?_
  obtain ⟨hp9, b4, hb9, hw⟩ := hw
  refine aw_getR (pc := 4) C (ci := 3) (k := 0) ci3 (by decide) tw90 dX1_steps_4 rfl hp9 hb9 ?_
  refine aw_iload_n (pc := 7) C dX1_steps_7 rfl rfl ?_
  obtain ⟨⟨k9, hp9⟩, hw⟩ := hw
  refine aw_iald (pc := 8) C dX1_steps_8 hp9 ?_
  refine aw_nmI (fun x2_9 e9 => ?_)
  have hw := hw x2_9 e9
  refine aw_istore_n (pc := 9) C dX1_steps_9 rfl (by rw [hml]; decide) ?_
  refine aw_iload_n (pc := 10) C dX1_steps_10 rfl rfl ?_
  refine aw_iconst (pc := 11) C dX1_steps_11 (i := (-1 : Int)) (by decide) ?_
  refine aw_icmp_ne (pc := 12) (tgt := 17) C dX1_steps_12 (by decide) (fun hc9 => ?_) (fun hc9 => ?_)
  · have hw := hw.1 hc9
    refine aw_aload_n (pc := 17) C dX1_steps_17 rfl rfl ?_
    obtain ⟨hp9, b18, hb9, hw⟩ := hw
    refine aw_getR (pc := 18) C (ci := 1) (k := 2) ci1 (by decide) tw172 dX1_steps_18 rfl hp9 hb9 ?_
    refine aw_iconst (pc := 21) C dX1_steps_21 (i := (0 : Int)) (by decide) ?_
    obtain ⟨hp9, hw⟩ := hw
    refine aw_callV (pc := 22) (as := [vI (0 : Int)]) C ci4 (fun As hA => met_X4_text G l As b18 (0 : Int) _ _ hA hw) tw414 tw333 tw334 tw2 tw335 ⟨rfl, rfl⟩ ⟨rfl, by decide, by decide, pd_X4_text⟩ ⟨Nat.le_of_ble_eq_true rfl, Nat.le_of_ble_eq_true rfl⟩ ⟨Nat.zero_le _, Nat.zero_le _⟩ (Nat.le_of_ble_eq_true rfl) dX1_steps_22 rfl hp9 (fun v9 h22 hq9 => ?_)
    obtain ⟨r22, rfl, hw⟩ := hq9
    refine aw_iload_n (pc := 25) C dX1_steps_25 rfl rfl ?_
    obtain ⟨hp9, hw⟩ := hw
    refine aw_callV (pc := 26) (as := [vI a1]) C ci5 (fun As hA => met_X5_columnOf G l As r22 a1 _ _ hA hw) tw440 tw376 tw377 tw3 tw378 ⟨rfl, rfl⟩ ⟨rfl, by decide, by decide, pd_X5_columnOf⟩ ⟨Nat.le_of_ble_eq_true rfl, Nat.le_of_ble_eq_true rfl⟩ ⟨Nat.zero_le _, Nat.zero_le _⟩ (Nat.le_of_ble_eq_true rfl) dX1_steps_26 rfl hp9 (fun v9 h26 hq9 => ?_)
    obtain ⟨r26, rfl, hw⟩ := hq9
    refine aw_aload_n (pc := 29) C dX1_steps_29 rfl rfl ?_
    obtain ⟨hp9, b30, hb9, hw⟩ := hw
    refine aw_getR (pc := 30) C (ci := 1) (k := 2) ci1 (by decide) tw172 dX1_steps_30 rfl hp9 hb9 ?_
    refine aw_iconst (pc := 33) C dX1_steps_33 (i := (1 : Int)) (by decide) ?_
    obtain ⟨hp9, hw⟩ := hw
    refine aw_callV (pc := 34) (as := [vI (1 : Int)]) C ci4 (fun As hA => met_X4_text G l As b30 (1 : Int) _ _ hA hw) tw414 tw333 tw334 tw2 tw335 ⟨rfl, rfl⟩ ⟨rfl, by decide, by decide, pd_X4_text⟩ ⟨Nat.le_of_ble_eq_true rfl, Nat.le_of_ble_eq_true rfl⟩ ⟨Nat.zero_le _, Nat.zero_le _⟩ (Nat.le_of_ble_eq_true rfl) dX1_steps_34 rfl hp9 (fun v9 h34 hq9 => ?_)
    obtain ⟨r34, rfl, hw⟩ := hq9
    refine aw_iload_n (pc := 37) C dX1_steps_37 rfl rfl ?_
    obtain ⟨hp9, hw⟩ := hw
    refine aw_callV (pc := 38) (as := [vI x2_9]) C ci5 (fun As hA => met_X5_columnOf G l As r34 x2_9 _ _ hA hw) tw440 tw376 tw377 tw3 tw378 ⟨rfl, rfl⟩ ⟨rfl, by decide, by decide, pd_X5_columnOf⟩ ⟨Nat.le_of_ble_eq_true rfl, Nat.le_of_ble_eq_true rfl⟩ ⟨Nat.zero_le _, Nat.zero_le _⟩ (Nat.le_of_ble_eq_true rfl) dX1_steps_38 rfl hp9 (fun v9 h38 hq9 => ?_)
    obtain ⟨r38, rfl, hw⟩ := hq9
    obtain ⟨hp9, hw⟩ := hw
    refine aw_isub (pc := 41) C dX1_steps_41 hp9 ?_
    obtain ⟨hp9, hw⟩ := hw
    refine aw_mabs (pc := 42) C tw441 tw380 tw10 tw381 ⟨Nat.le_of_ble_eq_true rfl, Nat.le_of_ble_eq_true rfl, Nat.zero_le _, Nat.zero_le _⟩ (Nat.le_of_ble_eq_true rfl) dX1_steps_42 hp9 ?_
    refine aw_aload_n (pc := 45) C dX1_steps_45 rfl rfl ?_
    obtain ⟨hp9, b46, hb9, hw⟩ := hw
    refine aw_getR (pc := 46) C (ci := 1) (k := 2) ci1 (by decide) tw172 dX1_steps_46 rfl hp9 hb9 ?_
    refine aw_iconst (pc := 49) C dX1_steps_49 (i := (0 : Int)) (by decide) ?_
    obtain ⟨hp9, hw⟩ := hw
    refine aw_callV (pc := 50) (as := [vI (0 : Int)]) C ci4 (fun As hA => met_X4_text G l As b46 (0 : Int) _ _ hA hw) tw414 tw333 tw334 tw2 tw335 ⟨rfl, rfl⟩ ⟨rfl, by decide, by decide, pd_X4_text⟩ ⟨Nat.le_of_ble_eq_true rfl, Nat.le_of_ble_eq_true rfl⟩ ⟨Nat.zero_le _, Nat.zero_le _⟩ (Nat.le_of_ble_eq_true rfl) dX1_steps_50 rfl hp9 (fun v9 h50 hq9 => ?_)
    obtain ⟨r50, rfl, hw⟩ := hq9
    refine aw_iload_n (pc := 53) C dX1_steps_53 rfl rfl ?_
    obtain ⟨hp9, hw⟩ := hw
    refine aw_callV (pc := 54) (as := [vI a1]) C ci5 (fun As hA => met_X5_rowOf G l As r50 a1 _ _ hA hw) tw442 tw368 tw369 tw3 tw370 ⟨rfl, rfl⟩ ⟨rfl, by decide, by decide, pd_X5_rowOf⟩ ⟨Nat.le_of_ble_eq_true rfl, Nat.le_of_ble_eq_true rfl⟩ ⟨Nat.zero_le _, Nat.zero_le _⟩ (Nat.le_of_ble_eq_true rfl) dX1_steps_54 rfl hp9 (fun v9 h54 hq9 => ?_)
    obtain ⟨r54, rfl, hw⟩ := hq9
    refine aw_aload_n (pc := 57) C dX1_steps_57 rfl rfl ?_
    obtain ⟨hp9, b58, hb9, hw⟩ := hw
    refine aw_getR (pc := 58) C (ci := 1) (k := 2) ci1 (by decide) tw172 dX1_steps_58 rfl hp9 hb9 ?_
    refine aw_iconst (pc := 61) C dX1_steps_61 (i := (1 : Int)) (by decide) ?_
    obtain ⟨hp9, hw⟩ := hw
    refine aw_callV (pc := 62) (as := [vI (1 : Int)]) C ci4 (fun As hA => met_X4_text G l As b58 (1 : Int) _ _ hA hw) tw414 tw333 tw334 tw2 tw335 ⟨rfl, rfl⟩ ⟨rfl, by decide, by decide, pd_X4_text⟩ ⟨Nat.le_of_ble_eq_true rfl, Nat.le_of_ble_eq_true rfl⟩ ⟨Nat.zero_le _, Nat.zero_le _⟩ (Nat.le_of_ble_eq_true rfl) dX1_steps_62 rfl hp9 (fun v9 h62 hq9 => ?_)
    obtain ⟨r62, rfl, hw⟩ := hq9
    refine aw_iload_n (pc := 65) C dX1_steps_65 rfl rfl ?_
    obtain ⟨hp9, hw⟩ := hw
    refine aw_callV (pc := 66) (as := [vI x2_9]) C ci5 (fun As hA => met_X5_rowOf G l As r62 x2_9 _ _ hA hw) tw442 tw368 tw369 tw3 tw370 ⟨rfl, rfl⟩ ⟨rfl, by decide, by decide, pd_X5_rowOf⟩ ⟨Nat.le_of_ble_eq_true rfl, Nat.le_of_ble_eq_true rfl⟩ ⟨Nat.zero_le _, Nat.zero_le _⟩ (Nat.le_of_ble_eq_true rfl) dX1_steps_66 rfl hp9 (fun v9 h66 hq9 => ?_)
    obtain ⟨r66, rfl, hw⟩ := hq9
    obtain ⟨hp9, hw⟩ := hw
    refine aw_isub (pc := 69) C dX1_steps_69 hp9 ?_
    obtain ⟨hp9, hw⟩ := hw
    refine aw_mabs (pc := 70) C tw441 tw380 tw10 tw381 ⟨Nat.le_of_ble_eq_true rfl, Nat.le_of_ble_eq_true rfl, Nat.zero_le _, Nat.zero_le _⟩ (Nat.le_of_ble_eq_true rfl) dX1_steps_70 hp9 ?_
    obtain ⟨hp9, hw⟩ := hw
    refine aw_iadd (pc := 73) C dX1_steps_73 hp9 ?_
    exact aw_iret (pc := 74) C hr dX1_steps_74 ⟨Nat.le_of_ble_eq_true rfl, Nat.le_of_ble_eq_true rfl⟩ ⟨_, rfl, hw⟩
  · have hw := hw.2 hc9
    refine aw_iconst (pc := 15) C dX1_steps_15 (i := (0 : Int)) (by decide) ?_
    exact aw_iret (pc := 16) C hr dX1_steps_16 ⟨Nat.le_of_ble_eq_true rfl, Nat.le_of_ble_eq_true rfl⟩ ⟨_, rfl, hw⟩
theorem dX1_stepsOfAll_0 : decode cX1_stepsOfAll 0 = .ok (.iconst 0, 1) := by decide +kernel
theorem dX1_stepsOfAll_1 : decode cX1_stepsOfAll 1 = .ok (.istore_n 1, 1) := by decide +kernel
theorem dX1_stepsOfAll_2 : decode cX1_stepsOfAll 2 = .ok (.iconst 0, 1) := by decide +kernel
theorem dX1_stepsOfAll_3 : decode cX1_stepsOfAll 3 = .ok (.istore_n 2, 1) := by decide +kernel
theorem dX1_stepsOfAll_4 : decode cX1_stepsOfAll 4 = .ok (.iload_n 2, 1) := by decide +kernel
theorem dX1_stepsOfAll_5 : decode cX1_stepsOfAll 5 = .ok (.aload_n 0, 1) := by decide +kernel
theorem dX1_stepsOfAll_6 : decode cX1_stepsOfAll 6 = .ok (.getfield 31, 3) := by decide +kernel
theorem dX1_stepsOfAll_9 : decode cX1_stepsOfAll 9 = .ok (.iconst 0, 1) := by decide +kernel
theorem dX1_stepsOfAll_10 : decode cX1_stepsOfAll 10 = .ok (.invokevirtual 65, 3) := by decide +kernel
theorem dX1_stepsOfAll_13 : decode cX1_stepsOfAll 13 = .ok (.getfield 69, 3) := by decide +kernel
theorem dX1_stepsOfAll_16 : decode cX1_stepsOfAll 16 = .ok (.if_icmp .ge 17, 3) := by decide +kernel
theorem dX1_stepsOfAll_19 : decode cX1_stepsOfAll 19 = .ok (.iload_n 1, 1) := by decide +kernel
theorem dX1_stepsOfAll_20 : decode cX1_stepsOfAll 20 = .ok (.aload_n 0, 1) := by decide +kernel
theorem dX1_stepsOfAll_21 : decode cX1_stepsOfAll 21 = .ok (.iload_n 2, 1) := by decide +kernel
theorem dX1_stepsOfAll_22 : decode cX1_stepsOfAll 22 = .ok (.invokevirtual 115, 3) := by decide +kernel
theorem dX1_stepsOfAll_25 : decode cX1_stepsOfAll 25 = .ok (.iadd, 1) := by decide +kernel
theorem dX1_stepsOfAll_26 : decode cX1_stepsOfAll 26 = .ok (.istore_n 1, 1) := by decide +kernel
theorem dX1_stepsOfAll_27 : decode cX1_stepsOfAll 27 = .ok (.iinc 2 1, 3) := by decide +kernel
theorem dX1_stepsOfAll_30 : decode cX1_stepsOfAll 30 = .ok (.goto (-26), 3) := by decide +kernel
theorem dX1_stepsOfAll_33 : decode cX1_stepsOfAll 33 = .ok (.iload_n 1, 1) := by decide +kernel
theorem dX1_stepsOfAll_34 : decode cX1_stepsOfAll 34 = .ok (.ireturn, 1) := by decide +kernel
theorem pd_X1_stepsOfAll : (parseMethodDescriptor yX1_stepsOfAll.desc).map (fun d => d.parameters.length) = some 0 := by decide +kernel
def w_X1_stepsOfAll (zz : Nat → Nat) (a0 : Nat) (h : AH) (Q : Int → AH → Prop) : Prop := ∃ I_4 : Nat → Int → Int → AH → Prop, (∃ n, I_4 n (0 : Int) (0 : Int) h) ∧ ∀ (n_4 : Nat) (x1_4 : Int) (x2_4 : Int) (h_4 : AH), I_4 n_4 x1_4 x2_4 h_4 → (okA h_4 a0 1 ∧ ∃ b6 : Nat, hfR h_4 a0 2 = some b6 ∧ okA h_4 b6 4 ∧ w_X4_text zz b6 (0 : Int) h_4 (fun (r10 : Nat) (h10 : AH) => okA h10 r10 5 ∧ (((hfI h10 r10 2) ≤ x2_4) → Q x1_4 h10) ∧ ((¬ ((hfI h10 r10 2) ≤ x2_4)) → okA h10 a0 1 ∧ w_X1_steps zz a0 x2_4 h10 (fun (r22 : Int) (h22 : AH) => inR (x1_4 + r22) ∧ ∀ x1_26 : Int, x1_26 = (x1_4 + r22) → inR (x2_4 + 1) ∧ ∀ x2_27 : Int, x2_27 = (x2_4 + 1) → ∃ m, m < n_4 ∧ I_4 m x1_26 x2_27 h22))))
set_option maxRecDepth 100000 in
set_option maxHeartbeats 4000000 in
theorem met_X1_stepsOfAll (G : GG) (l : Launch) : ∀ (As : List Value) (a0 : Nat) (h : AH) (Q : Int → AH → Prop), As.map ab = List.map some ([vR a0] : List AV) → w_X1_stepsOfAll G.2.2 a0 h Q → Met l yX1_stepsOfAll (.code yX1_stepsOfAll cX1_stepsOfAll 3 (some .int) :: xTb) ({ frames := 2, cells := 0, slots := 0, locals := 43 } : Room) (PcA G As h) (QG G (oI Q)) 0 0 (frA G) := by
  intro As a0 h Q hA hw
  refine met_of hA (by decide) (Nat.le_of_ble_eq_true rfl) (fun p e s m args below meth c C hml hr hnm => ?_)
  unfold w_X1_stepsOfAll at hw
  refine aw_iconst (pc := 0) C dX1_stepsOfAll_0 (i := (0 : Int)) (by decide) ?_
  refine aw_istore_n (pc := 1) C dX1_stepsOfAll_1 rfl (by rw [hml]; decide) ?_
  refine aw_iconst (pc := 2) C dX1_stepsOfAll_2 (i := (0 : Int)) (by decide) ?_
  refine aw_istore_n (pc := 3) C dX1_stepsOfAll_3 rfl (by rw [hml]; decide) ?_
  obtain ⟨I_4, ⟨n9, hi9⟩, hst9⟩ := hw
  have L_4 : ∀ (n_4 : Nat) (x1_4 : Int) (x2_4 : Int) (h_4 : AH), I_4 n_4 x1_4 x2_4 h_4 → AW G p l e ({ frames := 2, cells := 0, slots := 0, locals := 43 } : Room) s m args below meth c 0 0 (MQ below (QG G (oI Q)) args s 0 0 (frA G)) 4 (eOf [(0, vR a0), (1, vI x1_4), (2, vI x2_4)]) [] h_4 := by
    intro n_4
    induction n_4 using Nat.strongRecOn with
    | _ n_4 ih_4 =>
    intro x1_4 x2_4 h_4 hi9
    have hw := hst9 n_4 x1_4 x2_4 h_4 hi9
    refine aw_iload_n (pc := 4) C dX1_stepsOfAll_4 rfl rfl ?_
    refine aw_aload_n (pc := 5) C dX1_stepsOfAll_5 rfl rfl ?_
    obtain ⟨hp9, b6, hb9, hw⟩ := hw
    refine aw_getR (pc := 6) C (ci := 1) (k := 2) ci1 (by decide) tw172 dX1_stepsOfAll_6 rfl hp9 hb9 ?_
    refine aw_iconst (pc := 9) C dX1_stepsOfAll_9 (i := (0 : Int)) (by decide) ?_
    obtain ⟨hp9, hw⟩ := hw
    refine aw_callV (pc := 10) (as := [vI (0 : Int)]) C ci4 (fun As hA => met_X4_text G l As b6 (0 : Int) _ _ hA hw) tw414 tw333 tw334 tw2 tw335 ⟨rfl, rfl⟩ ⟨rfl, by decide, by decide, pd_X4_text⟩ ⟨Nat.le_of_ble_eq_true rfl, Nat.le_of_ble_eq_true rfl⟩ ⟨Nat.zero_le _, Nat.zero_le _⟩ (Nat.le_of_ble_eq_true rfl) dX1_stepsOfAll_10 rfl hp9 (fun v9 h10 hq9 => ?_)
    obtain ⟨r10, rfl, hw⟩ := hq9
    obtain ⟨hp9, hw⟩ := hw
    refine aw_getI (pc := 13) C (ci := 5) (k := 2) ci5 (by decide) tw46 dX1_stepsOfAll_13 rfl hp9 ?_
    refine aw_icmp_ge (pc := 16) (tgt := 33) C dX1_stepsOfAll_16 (by decide) (fun hc9 => ?_) (fun hc9 => ?_)
    · have hw := hw.1 hc9
      refine aw_iload_n (pc := 33) C dX1_stepsOfAll_33 rfl rfl ?_
      exact aw_iret (pc := 34) C hr dX1_stepsOfAll_34 ⟨Nat.le_of_ble_eq_true rfl, Nat.le_of_ble_eq_true rfl⟩ ⟨_, rfl, hw⟩
    · have hw := hw.2 hc9
      refine aw_iload_n (pc := 19) C dX1_stepsOfAll_19 rfl rfl ?_
      refine aw_aload_n (pc := 20) C dX1_stepsOfAll_20 rfl rfl ?_
      refine aw_iload_n (pc := 21) C dX1_stepsOfAll_21 rfl rfl ?_
      obtain ⟨hp9, hw⟩ := hw
      refine aw_callV (pc := 22) (as := [vI x2_4]) C ci1 (fun As hA => met_X1_steps G l As a0 x2_4 _ _ hA hw) tw436 tw438 (tbp 18 (n := 9) (by decide +kernel)) tw6 tw439 ⟨rfl, rfl⟩ ⟨rfl, by decide, by decide, pd_X1_steps⟩ ⟨Nat.le_of_ble_eq_true rfl, Nat.le_of_ble_eq_true rfl⟩ ⟨Nat.zero_le _, Nat.zero_le _⟩ (Nat.le_of_ble_eq_true rfl) dX1_stepsOfAll_22 rfl hp9 (fun v9 h22 hq9 => ?_)
      obtain ⟨r22, rfl, hw⟩ := hq9
      obtain ⟨hp9, hw⟩ := hw
      refine aw_iadd (pc := 25) C dX1_stepsOfAll_25 hp9 ?_
      refine aw_nmI (fun x1_26 e9 => ?_)
      have hw := hw x1_26 e9
      refine aw_istore_n (pc := 26) C dX1_stepsOfAll_26 rfl (by rw [hml]; decide) ?_
      obtain ⟨hp9, hw⟩ := hw
      refine aw_iincN (pc := 27) C dX1_stepsOfAll_27 (k := 1) (by decide) rfl (by rw [hml]; decide) hp9 (fun x2_27 e9 => ?_)
      have hw := hw x2_27 e9
      refine aw_goto (pc := 30) (tgt := 4) C dX1_stepsOfAll_30 (by decide) ?_
      obtain ⟨m9, hm9, hw⟩ := hw
      refine aw_sub [(0, vR a0), (1, vI x1_26), (2, vI x2_27)] ⟨rfl, rfl, rfl, trivial⟩ ?_
      exact ih_4 m9 hm9 _ _ _ hw
  refine aw_sub [(0, vR a0), (1, vI (0 : Int)), (2, vI (0 : Int))] ⟨rfl, rfl, rfl, trivial⟩ ?_
  exact L_4 n9 _ _ _ hi9
theorem dX1_number_0 : decode cX1_number 0 = .ok (.iload_n 1, 1) := by decide +kernel
theorem dX1_number_1 : decode cX1_number 1 = .ok (.tableswitch 156 0 10 #[59, 64, 76, 88, 98, 108, 118, 128, 138, 146, 151], 59) := by decide +kernel
theorem dX1_number_60 : decode cX1_number 60 = .ok (.aload_n 0, 1) := by decide +kernel
theorem dX1_number_61 : decode cX1_number 61 = .ok (.invokevirtual 83, 3) := by decide +kernel
theorem dX1_number_64 : decode cX1_number 64 = .ok (.ireturn, 1) := by decide +kernel
theorem dX1_number_65 : decode cX1_number 65 = .ok (.aload_n 0, 1) := by decide +kernel
theorem dX1_number_66 : decode cX1_number 66 = .ok (.getfield 31, 3) := by decide +kernel
theorem dX1_number_69 : decode cX1_number 69 = .ok (.iconst 0, 1) := by decide +kernel
theorem dX1_number_70 : decode cX1_number 70 = .ok (.invokevirtual 65, 3) := by decide +kernel
theorem dX1_number_73 : decode cX1_number 73 = .ok (.getfield 69, 3) := by decide +kernel
theorem dX1_number_76 : decode cX1_number 76 = .ok (.ireturn, 1) := by decide +kernel
theorem dX1_number_77 : decode cX1_number 77 = .ok (.aload_n 0, 1) := by decide +kernel
theorem dX1_number_78 : decode cX1_number 78 = .ok (.getfield 31, 3) := by decide +kernel
theorem dX1_number_81 : decode cX1_number 81 = .ok (.iconst 1, 1) := by decide +kernel
theorem dX1_number_82 : decode cX1_number 82 = .ok (.invokevirtual 65, 3) := by decide +kernel
theorem dX1_number_85 : decode cX1_number 85 = .ok (.getfield 69, 3) := by decide +kernel
theorem dX1_number_88 : decode cX1_number 88 = .ok (.ireturn, 1) := by decide +kernel
theorem dX1_number_89 : decode cX1_number 89 = .ok (.aload_n 0, 1) := by decide +kernel
theorem dX1_number_90 : decode cX1_number 90 = .ok (.getfield 40, 3) := by decide +kernel
theorem dX1_number_93 : decode cX1_number 93 = .ok (.getfield 62, 3) := by decide +kernel
theorem dX1_number_96 : decode cX1_number 96 = .ok (.iconst 1, 1) := by decide +kernel
theorem dX1_number_97 : decode cX1_number 97 = .ok (.iaload, 1) := by decide +kernel
theorem dX1_number_98 : decode cX1_number 98 = .ok (.ireturn, 1) := by decide +kernel
theorem dX1_number_99 : decode cX1_number 99 = .ok (.aload_n 0, 1) := by decide +kernel
theorem dX1_number_100 : decode cX1_number 100 = .ok (.getfield 40, 3) := by decide +kernel
theorem dX1_number_103 : decode cX1_number 103 = .ok (.getfield 62, 3) := by decide +kernel
theorem dX1_number_106 : decode cX1_number 106 = .ok (.iconst 2, 1) := by decide +kernel
theorem dX1_number_107 : decode cX1_number 107 = .ok (.iaload, 1) := by decide +kernel
theorem dX1_number_108 : decode cX1_number 108 = .ok (.ireturn, 1) := by decide +kernel
theorem dX1_number_109 : decode cX1_number 109 = .ok (.aload_n 0, 1) := by decide +kernel
theorem dX1_number_110 : decode cX1_number 110 = .ok (.getfield 40, 3) := by decide +kernel
theorem dX1_number_113 : decode cX1_number 113 = .ok (.getfield 62, 3) := by decide +kernel
theorem dX1_number_116 : decode cX1_number 116 = .ok (.iconst 3, 1) := by decide +kernel
theorem dX1_number_117 : decode cX1_number 117 = .ok (.iaload, 1) := by decide +kernel
theorem dX1_number_118 : decode cX1_number 118 = .ok (.ireturn, 1) := by decide +kernel
theorem dX1_number_119 : decode cX1_number 119 = .ok (.aload_n 0, 1) := by decide +kernel
theorem dX1_number_120 : decode cX1_number 120 = .ok (.getfield 40, 3) := by decide +kernel
theorem dX1_number_123 : decode cX1_number 123 = .ok (.getfield 62, 3) := by decide +kernel
theorem dX1_number_126 : decode cX1_number 126 = .ok (.iconst 4, 1) := by decide +kernel
theorem dX1_number_127 : decode cX1_number 127 = .ok (.iaload, 1) := by decide +kernel
theorem dX1_number_128 : decode cX1_number 128 = .ok (.ireturn, 1) := by decide +kernel
theorem dX1_number_129 : decode cX1_number 129 = .ok (.aload_n 0, 1) := by decide +kernel
theorem dX1_number_130 : decode cX1_number 130 = .ok (.getfield 40, 3) := by decide +kernel
theorem dX1_number_133 : decode cX1_number 133 = .ok (.getfield 62, 3) := by decide +kernel
theorem dX1_number_136 : decode cX1_number 136 = .ok (.iconst 5, 1) := by decide +kernel
theorem dX1_number_137 : decode cX1_number 137 = .ok (.iaload, 1) := by decide +kernel
theorem dX1_number_138 : decode cX1_number 138 = .ok (.ireturn, 1) := by decide +kernel
theorem dX1_number_139 : decode cX1_number 139 = .ok (.aload_n 0, 1) := by decide +kernel
theorem dX1_number_140 : decode cX1_number 140 = .ok (.getfield 49, 3) := by decide +kernel
theorem dX1_number_143 : decode cX1_number 143 = .ok (.getfield 77, 3) := by decide +kernel
theorem dX1_number_146 : decode cX1_number 146 = .ok (.ireturn, 1) := by decide +kernel
theorem dX1_number_147 : decode cX1_number 147 = .ok (.aload_n 0, 1) := by decide +kernel
theorem dX1_number_148 : decode cX1_number 148 = .ok (.invokevirtual 86, 3) := by decide +kernel
theorem dX1_number_151 : decode cX1_number 151 = .ok (.ireturn, 1) := by decide +kernel
theorem dX1_number_152 : decode cX1_number 152 = .ok (.aload_n 0, 1) := by decide +kernel
theorem dX1_number_153 : decode cX1_number 153 = .ok (.invokevirtual 89, 3) := by decide +kernel
theorem dX1_number_156 : decode cX1_number 156 = .ok (.ireturn, 1) := by decide +kernel
theorem dX1_number_157 : decode cX1_number 157 = .ok (.aload_n 0, 1) := by decide +kernel
theorem dX1_number_158 : decode cX1_number 158 = .ok (.getfield 49, 3) := by decide +kernel
theorem dX1_number_161 : decode cX1_number 161 = .ok (.getfield 92, 3) := by decide +kernel
theorem dX1_number_164 : decode cX1_number 164 = .ok (.ireturn, 1) := by decide +kernel
theorem pd_X1_number : (parseMethodDescriptor yX1_number.desc).map (fun d => d.parameters.length) = some 1 := by decide +kernel
def w_X1_number (zz : Nat → Nat) (a0 : Nat) (a1 : Int) (h : AH) (Q : Int → AH → Prop) : Prop := (a1 = 0 → okA h a0 1 ∧ w_X1_frames zz a0 h (fun (r61 : Int) (h61 : AH) => Q r61 h61)) ∧ (a1 = 1 → okA h a0 1 ∧ ∃ b66 : Nat, hfR h a0 2 = some b66 ∧ okA h b66 4 ∧ w_X4_text zz b66 (0 : Int) h (fun (r70 : Nat) (h70 : AH) => okA h70 r70 5 ∧ Q (hfI h70 r70 2) h70)) ∧ (a1 = 2 → okA h a0 1 ∧ ∃ b78 : Nat, hfR h a0 2 = some b78 ∧ okA h b78 4 ∧ w_X4_text zz b78 (1 : Int) h (fun (r82 : Nat) (h82 : AH) => okA h82 r82 5 ∧ Q (hfI h82 r82 2) h82)) ∧ (a1 = 3 → okA h a0 1 ∧ ∃ b90 : Nat, hfR h a0 0 = some b90 ∧ okA h b90 3 ∧ ∃ b93 : Nat, hfR h b90 4 = some b93 ∧ okI h b93 (1 : Int) ∧ Q (haI h b93 (1 : Int)) h) ∧ (a1 = 4 → okA h a0 1 ∧ ∃ b100 : Nat, hfR h a0 0 = some b100 ∧ okA h b100 3 ∧ ∃ b103 : Nat, hfR h b100 4 = some b103 ∧ okI h b103 (2 : Int) ∧ Q (haI h b103 (2 : Int)) h) ∧ (a1 = 5 → okA h a0 1 ∧ ∃ b110 : Nat, hfR h a0 0 = some b110 ∧ okA h b110 3 ∧ ∃ b113 : Nat, hfR h b110 4 = some b113 ∧ okI h b113 (3 : Int) ∧ Q (haI h b113 (3 : Int)) h) ∧ (a1 = 6 → okA h a0 1 ∧ ∃ b120 : Nat, hfR h a0 0 = some b120 ∧ okA h b120 3 ∧ ∃ b123 : Nat, hfR h b120 4 = some b123 ∧ okI h b123 (4 : Int) ∧ Q (haI h b123 (4 : Int)) h) ∧ (a1 = 7 → okA h a0 1 ∧ ∃ b130 : Nat, hfR h a0 0 = some b130 ∧ okA h b130 3 ∧ ∃ b133 : Nat, hfR h b130 4 = some b133 ∧ okI h b133 (5 : Int) ∧ Q (haI h b133 (5 : Int)) h) ∧ (a1 = 8 → okA h a0 1 ∧ ∃ b140 : Nat, hfR h a0 1 = some b140 ∧ okA h b140 2 ∧ Q (hfI h b140 3) h) ∧ (a1 = 9 → okA h a0 1 ∧ w_X1_distancesOfAll zz a0 h (fun (r148 : Int) (h148 : AH) => Q r148 h148)) ∧ (a1 = 10 → okA h a0 1 ∧ w_X1_stepsOfAll zz a0 h (fun (r153 : Int) (h153 : AH) => Q r153 h153)) ∧ ((a1 < 0 ∨ 10 < a1) → okA h a0 1 ∧ ∃ b158 : Nat, hfR h a0 1 = some b158 ∧ okA h b158 2 ∧ Q (hfI h b158 4) h)
set_option maxRecDepth 100000 in
set_option maxHeartbeats 4000000 in
theorem met_X1_number (G : GG) (l : Launch) : ∀ (As : List Value) (a0 : Nat) (a1 : Int) (h : AH) (Q : Int → AH → Prop), As.map ab = List.map some ([vR a0, vI a1] : List AV) → w_X1_number G.2.2 a0 a1 h Q → Met l yX1_number (.code yX1_number cX1_number 2 (some .int) :: xTb) ({ frames := 3, cells := 0, slots := 0, locals := 67 } : Room) (PcA G As h) (QG G (oI Q)) 0 0 (frA G) := by
  intro As a0 a1 h Q hA hw
  refine met_of hA (by decide) (Nat.le_of_ble_eq_true rfl) (fun p e s m args below meth c C hml hr hnm => ?_)
  unfold w_X1_number at hw
  refine aw_iload_n (pc := 0) C dX1_number_0 rfl rfl ?_
  have hcs9 : a1 = 0 ∨ a1 = 1 ∨ a1 = 2 ∨ a1 = 3 ∨ a1 = 4 ∨ a1 = 5 ∨ a1 = 6 ∨ a1 = 7 ∨ a1 = 8 ∨ a1 = 9 ∨ a1 = 10 ∨ (a1 < 0 ∨ 10 < a1) := by omega
  rcases hcs9 with hc9 | hc9 | hc9 | hc9 | hc9 | hc9 | hc9 | hc9 | hc9 | hc9 | hc9 | hc9
  · have hw := hw.1 hc9
    refine aw_tableIn (pc := 1) (off := 59) (tgt := 60) C dX1_number_1 (by omega) (by omega) (by rw [hc9]; rfl) (by decide) ?_
    refine aw_aload_n (pc := 60) C dX1_number_60 rfl rfl ?_
    obtain ⟨hp9, hw⟩ := hw
    refine aw_callV (pc := 61) (as := []) C ci1 (fun As hA => met_X1_frames G l As a0 _ _ hA hw) tw419 tw420 tw421 tw6 tw422 ⟨rfl, rfl⟩ ⟨rfl, by decide, by decide, pd_X1_frames⟩ ⟨Nat.le_of_ble_eq_true rfl, Nat.le_of_ble_eq_true rfl⟩ ⟨Nat.zero_le _, Nat.zero_le _⟩ (Nat.le_of_ble_eq_true rfl) dX1_number_61 rfl hp9 (fun v9 h61 hq9 => ?_)
    obtain ⟨r61, rfl, hw⟩ := hq9
    exact aw_iret (pc := 64) C hr dX1_number_64 ⟨Nat.le_of_ble_eq_true rfl, Nat.le_of_ble_eq_true rfl⟩ ⟨_, rfl, hw⟩
  · have hw := hw.2.1 hc9
    refine aw_tableIn (pc := 1) (off := 64) (tgt := 65) C dX1_number_1 (by omega) (by omega) (by rw [hc9]; rfl) (by decide) ?_
    refine aw_aload_n (pc := 65) C dX1_number_65 rfl rfl ?_
    obtain ⟨hp9, b66, hb9, hw⟩ := hw
    refine aw_getR (pc := 66) C (ci := 1) (k := 2) ci1 (by decide) tw172 dX1_number_66 rfl hp9 hb9 ?_
    refine aw_iconst (pc := 69) C dX1_number_69 (i := (0 : Int)) (by decide) ?_
    obtain ⟨hp9, hw⟩ := hw
    refine aw_callV (pc := 70) (as := [vI (0 : Int)]) C ci4 (fun As hA => met_X4_text G l As b66 (0 : Int) _ _ hA hw) tw414 tw333 tw334 tw2 tw335 ⟨rfl, rfl⟩ ⟨rfl, by decide, by decide, pd_X4_text⟩ ⟨Nat.le_of_ble_eq_true rfl, Nat.le_of_ble_eq_true rfl⟩ ⟨Nat.zero_le _, Nat.zero_le _⟩ (Nat.le_of_ble_eq_true rfl) dX1_number_70 rfl hp9 (fun v9 h70 hq9 => ?_)
    obtain ⟨r70, rfl, hw⟩ := hq9
    obtain ⟨hp9, hw⟩ := hw
    refine aw_getI (pc := 73) C (ci := 5) (k := 2) ci5 (by decide) tw46 dX1_number_73 rfl hp9 ?_
    exact aw_iret (pc := 76) C hr dX1_number_76 ⟨Nat.le_of_ble_eq_true rfl, Nat.le_of_ble_eq_true rfl⟩ ⟨_, rfl, hw⟩
  · have hw := hw.2.2.1 hc9
    refine aw_tableIn (pc := 1) (off := 76) (tgt := 77) C dX1_number_1 (by omega) (by omega) (by rw [hc9]; rfl) (by decide) ?_
    refine aw_aload_n (pc := 77) C dX1_number_77 rfl rfl ?_
    obtain ⟨hp9, b78, hb9, hw⟩ := hw
    refine aw_getR (pc := 78) C (ci := 1) (k := 2) ci1 (by decide) tw172 dX1_number_78 rfl hp9 hb9 ?_
    refine aw_iconst (pc := 81) C dX1_number_81 (i := (1 : Int)) (by decide) ?_
    obtain ⟨hp9, hw⟩ := hw
    refine aw_callV (pc := 82) (as := [vI (1 : Int)]) C ci4 (fun As hA => met_X4_text G l As b78 (1 : Int) _ _ hA hw) tw414 tw333 tw334 tw2 tw335 ⟨rfl, rfl⟩ ⟨rfl, by decide, by decide, pd_X4_text⟩ ⟨Nat.le_of_ble_eq_true rfl, Nat.le_of_ble_eq_true rfl⟩ ⟨Nat.zero_le _, Nat.zero_le _⟩ (Nat.le_of_ble_eq_true rfl) dX1_number_82 rfl hp9 (fun v9 h82 hq9 => ?_)
    obtain ⟨r82, rfl, hw⟩ := hq9
    obtain ⟨hp9, hw⟩ := hw
    refine aw_getI (pc := 85) C (ci := 5) (k := 2) ci5 (by decide) tw46 dX1_number_85 rfl hp9 ?_
    exact aw_iret (pc := 88) C hr dX1_number_88 ⟨Nat.le_of_ble_eq_true rfl, Nat.le_of_ble_eq_true rfl⟩ ⟨_, rfl, hw⟩
  · have hw := hw.2.2.2.1 hc9
    refine aw_tableIn (pc := 1) (off := 88) (tgt := 89) C dX1_number_1 (by omega) (by omega) (by rw [hc9]; rfl) (by decide) ?_
    refine aw_aload_n (pc := 89) C dX1_number_89 rfl rfl ?_
    obtain ⟨hp9, b90, hb9, hw⟩ := hw
    refine aw_getR (pc := 90) C (ci := 1) (k := 0) ci1 (by decide) tw169 dX1_number_90 rfl hp9 hb9 ?_
    obtain ⟨hp9, b93, hb9, hw⟩ := hw
    refine aw_getR (pc := 93) C (ci := 3) (k := 4) ci3 (by decide) tw100 dX1_number_93 rfl hp9 hb9 ?_
    refine aw_iconst (pc := 96) C dX1_number_96 (i := (1 : Int)) (by decide) ?_
    obtain ⟨⟨k9, hp9⟩, hw⟩ := hw
    refine aw_iald (pc := 97) C dX1_number_97 hp9 ?_
    exact aw_iret (pc := 98) C hr dX1_number_98 ⟨Nat.le_of_ble_eq_true rfl, Nat.le_of_ble_eq_true rfl⟩ ⟨_, rfl, hw⟩
  · have hw := hw.2.2.2.2.1 hc9
    refine aw_tableIn (pc := 1) (off := 98) (tgt := 99) C dX1_number_1 (by omega) (by omega) (by rw [hc9]; rfl) (by decide) ?_
    refine aw_aload_n (pc := 99) C dX1_number_99 rfl rfl ?_
    obtain ⟨hp9, b100, hb9, hw⟩ := hw
    refine aw_getR (pc := 100) C (ci := 1) (k := 0) ci1 (by decide) tw169 dX1_number_100 rfl hp9 hb9 ?_
    obtain ⟨hp9, b103, hb9, hw⟩ := hw
    refine aw_getR (pc := 103) C (ci := 3) (k := 4) ci3 (by decide) tw100 dX1_number_103 rfl hp9 hb9 ?_
    refine aw_iconst (pc := 106) C dX1_number_106 (i := (2 : Int)) (by decide) ?_
    obtain ⟨⟨k9, hp9⟩, hw⟩ := hw
    refine aw_iald (pc := 107) C dX1_number_107 hp9 ?_
    exact aw_iret (pc := 108) C hr dX1_number_108 ⟨Nat.le_of_ble_eq_true rfl, Nat.le_of_ble_eq_true rfl⟩ ⟨_, rfl, hw⟩
  · have hw := hw.2.2.2.2.2.1 hc9
    refine aw_tableIn (pc := 1) (off := 108) (tgt := 109) C dX1_number_1 (by omega) (by omega) (by rw [hc9]; rfl) (by decide) ?_
    refine aw_aload_n (pc := 109) C dX1_number_109 rfl rfl ?_
    obtain ⟨hp9, b110, hb9, hw⟩ := hw
    refine aw_getR (pc := 110) C (ci := 1) (k := 0) ci1 (by decide) tw169 dX1_number_110 rfl hp9 hb9 ?_
    obtain ⟨hp9, b113, hb9, hw⟩ := hw
    refine aw_getR (pc := 113) C (ci := 3) (k := 4) ci3 (by decide) tw100 dX1_number_113 rfl hp9 hb9 ?_
    refine aw_iconst (pc := 116) C dX1_number_116 (i := (3 : Int)) (by decide) ?_
    obtain ⟨⟨k9, hp9⟩, hw⟩ := hw
    refine aw_iald (pc := 117) C dX1_number_117 hp9 ?_
    exact aw_iret (pc := 118) C hr dX1_number_118 ⟨Nat.le_of_ble_eq_true rfl, Nat.le_of_ble_eq_true rfl⟩ ⟨_, rfl, hw⟩
  · have hw := hw.2.2.2.2.2.2.1 hc9
    refine aw_tableIn (pc := 1) (off := 118) (tgt := 119) C dX1_number_1 (by omega) (by omega) (by rw [hc9]; rfl) (by decide) ?_
    refine aw_aload_n (pc := 119) C dX1_number_119 rfl rfl ?_
    obtain ⟨hp9, b120, hb9, hw⟩ := hw
    refine aw_getR (pc := 120) C (ci := 1) (k := 0) ci1 (by decide) tw169 dX1_number_120 rfl hp9 hb9 ?_
    obtain ⟨hp9, b123, hb9, hw⟩ := hw
    refine aw_getR (pc := 123) C (ci := 3) (k := 4) ci3 (by decide) tw100 dX1_number_123 rfl hp9 hb9 ?_
    refine aw_iconst (pc := 126) C dX1_number_126 (i := (4 : Int)) (by decide) ?_
    obtain ⟨⟨k9, hp9⟩, hw⟩ := hw
    refine aw_iald (pc := 127) C dX1_number_127 hp9 ?_
    exact aw_iret (pc := 128) C hr dX1_number_128 ⟨Nat.le_of_ble_eq_true rfl, Nat.le_of_ble_eq_true rfl⟩ ⟨_, rfl, hw⟩
  · have hw := hw.2.2.2.2.2.2.2.1 hc9
    refine aw_tableIn (pc := 1) (off := 128) (tgt := 129) C dX1_number_1 (by omega) (by omega) (by rw [hc9]; rfl) (by decide) ?_
    refine aw_aload_n (pc := 129) C dX1_number_129 rfl rfl ?_
    obtain ⟨hp9, b130, hb9, hw⟩ := hw
    refine aw_getR (pc := 130) C (ci := 1) (k := 0) ci1 (by decide) tw169 dX1_number_130 rfl hp9 hb9 ?_
    obtain ⟨hp9, b133, hb9, hw⟩ := hw
    refine aw_getR (pc := 133) C (ci := 3) (k := 4) ci3 (by decide) tw100 dX1_number_133 rfl hp9 hb9 ?_
    refine aw_iconst (pc := 136) C dX1_number_136 (i := (5 : Int)) (by decide) ?_
    obtain ⟨⟨k9, hp9⟩, hw⟩ := hw
    refine aw_iald (pc := 137) C dX1_number_137 hp9 ?_
    exact aw_iret (pc := 138) C hr dX1_number_138 ⟨Nat.le_of_ble_eq_true rfl, Nat.le_of_ble_eq_true rfl⟩ ⟨_, rfl, hw⟩
  · have hw := hw.2.2.2.2.2.2.2.2.1 hc9
    refine aw_tableIn (pc := 1) (off := 138) (tgt := 139) C dX1_number_1 (by omega) (by omega) (by rw [hc9]; rfl) (by decide) ?_
    refine aw_aload_n (pc := 139) C dX1_number_139 rfl rfl ?_
    obtain ⟨hp9, b140, hb9, hw⟩ := hw
    refine aw_getR (pc := 140) C (ci := 1) (k := 1) ci1 (by decide) tw171 dX1_number_140 rfl hp9 hb9 ?_
    obtain ⟨hp9, hw⟩ := hw
    refine aw_getI (pc := 143) C (ci := 2) (k := 3) ci2 (by decide) tw131 dX1_number_143 rfl hp9 ?_
    exact aw_iret (pc := 146) C hr dX1_number_146 ⟨Nat.le_of_ble_eq_true rfl, Nat.le_of_ble_eq_true rfl⟩ ⟨_, rfl, hw⟩
  · have hw := hw.2.2.2.2.2.2.2.2.2.1 hc9
    refine aw_tableIn (pc := 1) (off := 146) (tgt := 147) C dX1_number_1 (by omega) (by omega) (by rw [hc9]; rfl) (by decide) ?_
    refine aw_aload_n (pc := 147) C dX1_number_147 rfl rfl ?_
    obtain ⟨hp9, hw⟩ := hw
    refine aw_callV (pc := 148) (as := []) C ci1 (fun As hA => met_X1_distancesOfAll G l As a0 _ _ hA hw) tw423 tw425 (tbp 15 (n := 9) (by decide +kernel)) tw6 tw426 ⟨rfl, rfl⟩ ⟨rfl, by decide, by decide, pd_X1_distancesOfAll⟩ ⟨Nat.le_of_ble_eq_true rfl, Nat.le_of_ble_eq_true rfl⟩ ⟨Nat.zero_le _, Nat.zero_le _⟩ (Nat.le_of_ble_eq_true rfl) dX1_number_148 rfl hp9 (fun v9 h148 hq9 => ?_)
    obtain ⟨r148, rfl, hw⟩ := hq9
    exact aw_iret (pc := 151) C hr dX1_number_151 ⟨Nat.le_of_ble_eq_true rfl, Nat.le_of_ble_eq_true rfl⟩ ⟨_, rfl, hw⟩
  · have hw := hw.2.2.2.2.2.2.2.2.2.2.1 hc9
    refine aw_tableIn (pc := 1) (off := 151) (tgt := 152) C dX1_number_1 (by omega) (by omega) (by rw [hc9]; rfl) (by decide) ?_
    refine aw_aload_n (pc := 152) C dX1_number_152 rfl rfl ?_
    obtain ⟨hp9, hw⟩ := hw
    refine aw_callV (pc := 153) (as := []) C ci1 (fun As hA => met_X1_stepsOfAll G l As a0 _ _ hA hw) tw432 tw434 (tbp 17 (n := 9) (by decide +kernel)) tw6 tw435 ⟨rfl, rfl⟩ ⟨rfl, by decide, by decide, pd_X1_stepsOfAll⟩ ⟨Nat.le_of_ble_eq_true rfl, Nat.le_of_ble_eq_true rfl⟩ ⟨Nat.zero_le _, Nat.zero_le _⟩ (Nat.le_of_ble_eq_true rfl) dX1_number_153 rfl hp9 (fun v9 h153 hq9 => ?_)
    obtain ⟨r153, rfl, hw⟩ := hq9
    exact aw_iret (pc := 156) C hr dX1_number_156 ⟨Nat.le_of_ble_eq_true rfl, Nat.le_of_ble_eq_true rfl⟩ ⟨_, rfl, hw⟩
  · have hw := hw.2.2.2.2.2.2.2.2.2.2.2 hc9
    refine aw_tableOut (pc := 1) (tgt := 157) C dX1_number_1 hc9 (by decide) ?_
    refine aw_aload_n (pc := 157) C dX1_number_157 rfl rfl ?_
    obtain ⟨hp9, b158, hb9, hw⟩ := hw
    refine aw_getR (pc := 158) C (ci := 1) (k := 1) ci1 (by decide) tw171 dX1_number_158 rfl hp9 hb9 ?_
    obtain ⟨hp9, hw⟩ := hw
    refine aw_getI (pc := 161) C (ci := 2) (k := 4) ci2 (by decide) tw133 dX1_number_161 rfl hp9 ?_
    exact aw_iret (pc := 164) C hr dX1_number_164 ⟨Nat.le_of_ble_eq_true rfl, Nat.le_of_ble_eq_true rfl⟩ ⟨_, rfl, hw⟩
theorem dX1_letterProperty_0 : decode cX1_letterProperty 0 = .ok (.iload_n 1, 1) := by decide +kernel
theorem dX1_letterProperty_1 : decode cX1_letterProperty 1 = .ok (.ifCond .ne 15, 3) := by decide +kernel
theorem dX1_letterProperty_4 : decode cX1_letterProperty 4 = .ok (.aload_n 0, 1) := by decide +kernel
theorem dX1_letterProperty_5 : decode cX1_letterProperty 5 = .ok (.getfield 40, 3) := by decide +kernel
theorem dX1_letterProperty_8 : decode cX1_letterProperty 8 = .ok (.getfield 95, 3) := by decide +kernel
theorem dX1_letterProperty_11 : decode cX1_letterProperty 11 = .ok (.iload_n 2, 1) := by decide +kernel
theorem dX1_letterProperty_12 : decode cX1_letterProperty 12 = .ok (.iaload, 1) := by decide +kernel
theorem dX1_letterProperty_13 : decode cX1_letterProperty 13 = .ok (.goto 12, 3) := by decide +kernel
theorem dX1_letterProperty_16 : decode cX1_letterProperty 16 = .ok (.aload_n 0, 1) := by decide +kernel
theorem dX1_letterProperty_17 : decode cX1_letterProperty 17 = .ok (.getfield 40, 3) := by decide +kernel
theorem dX1_letterProperty_20 : decode cX1_letterProperty 20 = .ok (.getfield 98, 3) := by decide +kernel
theorem dX1_letterProperty_23 : decode cX1_letterProperty 23 = .ok (.iload_n 2, 1) := by decide +kernel
theorem dX1_letterProperty_24 : decode cX1_letterProperty 24 = .ok (.iaload, 1) := by decide +kernel
theorem dX1_letterProperty_25 : decode cX1_letterProperty 25 = .ok (.istore 4, 2) := by decide +kernel
theorem dX1_letterProperty_27 : decode cX1_letterProperty 27 = .ok (.iload_n 3, 1) := by decide +kernel
theorem dX1_letterProperty_28 : decode cX1_letterProperty 28 = .ok (.tableswitch 104 0 4 #[36, 49, 62, 75, 78], 36) := by decide +kernel
theorem dX1_letterProperty_64 : decode cX1_letterProperty 64 = .ok (.aload_n 0, 1) := by decide +kernel
theorem dX1_letterProperty_65 : decode cX1_letterProperty 65 = .ok (.getfield 31, 3) := by decide +kernel
theorem dX1_letterProperty_68 : decode cX1_letterProperty 68 = .ok (.iload_n 1, 1) := by decide +kernel
theorem dX1_letterProperty_69 : decode cX1_letterProperty 69 = .ok (.invokevirtual 65, 3) := by decide +kernel
theorem dX1_letterProperty_72 : decode cX1_letterProperty 72 = .ok (.iload_n 2, 1) := by decide +kernel
theorem dX1_letterProperty_73 : decode cX1_letterProperty 73 = .ok (.invokevirtual 101, 3) := by decide +kernel
theorem dX1_letterProperty_76 : decode cX1_letterProperty 76 = .ok (.ireturn, 1) := by decide +kernel
theorem dX1_letterProperty_77 : decode cX1_letterProperty 77 = .ok (.aload_n 0, 1) := by decide +kernel
theorem dX1_letterProperty_78 : decode cX1_letterProperty 78 = .ok (.getfield 31, 3) := by decide +kernel
theorem dX1_letterProperty_81 : decode cX1_letterProperty 81 = .ok (.iload_n 1, 1) := by decide +kernel
theorem dX1_letterProperty_82 : decode cX1_letterProperty 82 = .ok (.invokevirtual 65, 3) := by decide +kernel
theorem dX1_letterProperty_85 : decode cX1_letterProperty 85 = .ok (.iload_n 2, 1) := by decide +kernel
theorem dX1_letterProperty_86 : decode cX1_letterProperty 86 = .ok (.invokevirtual 105, 3) := by decide +kernel
theorem dX1_letterProperty_89 : decode cX1_letterProperty 89 = .ok (.ireturn, 1) := by decide +kernel
theorem dX1_letterProperty_90 : decode cX1_letterProperty 90 = .ok (.aload_n 0, 1) := by decide +kernel
theorem dX1_letterProperty_91 : decode cX1_letterProperty 91 = .ok (.getfield 31, 3) := by decide +kernel
theorem dX1_letterProperty_94 : decode cX1_letterProperty 94 = .ok (.iload_n 1, 1) := by decide +kernel
theorem dX1_letterProperty_95 : decode cX1_letterProperty 95 = .ok (.invokevirtual 65, 3) := by decide +kernel
theorem dX1_letterProperty_98 : decode cX1_letterProperty 98 = .ok (.iload_n 2, 1) := by decide +kernel
theorem dX1_letterProperty_99 : decode cX1_letterProperty 99 = .ok (.invokevirtual 108, 3) := by decide +kernel
theorem dX1_letterProperty_102 : decode cX1_letterProperty 102 = .ok (.ireturn, 1) := by decide +kernel
theorem dX1_letterProperty_103 : decode cX1_letterProperty 103 = .ok (.iload 4, 2) := by decide +kernel
theorem dX1_letterProperty_105 : decode cX1_letterProperty 105 = .ok (.ireturn, 1) := by decide +kernel
theorem dX1_letterProperty_106 : decode cX1_letterProperty 106 = .ok (.iload_n 1, 1) := by decide +kernel
theorem dX1_letterProperty_107 : decode cX1_letterProperty 107 = .ok (.ifCond .ne 15, 3) := by decide +kernel
theorem dX1_letterProperty_110 : decode cX1_letterProperty 110 = .ok (.aload_n 0, 1) := by decide +kernel
theorem dX1_letterProperty_111 : decode cX1_letterProperty 111 = .ok (.getfield 40, 3) := by decide +kernel
theorem dX1_letterProperty_114 : decode cX1_letterProperty 114 = .ok (.getfield 74, 3) := by decide +kernel
theorem dX1_letterProperty_117 : decode cX1_letterProperty 117 = .ok (.iload_n 2, 1) := by decide +kernel
theorem dX1_letterProperty_118 : decode cX1_letterProperty 118 = .ok (.iaload, 1) := by decide +kernel
theorem dX1_letterProperty_119 : decode cX1_letterProperty 119 = .ok (.goto 12, 3) := by decide +kernel
theorem dX1_letterProperty_122 : decode cX1_letterProperty 122 = .ok (.aload_n 0, 1) := by decide +kernel
theorem dX1_letterProperty_123 : decode cX1_letterProperty 123 = .ok (.getfield 40, 3) := by decide +kernel
theorem dX1_letterProperty_126 : decode cX1_letterProperty 126 = .ok (.getfield 80, 3) := by decide +kernel
theorem dX1_letterProperty_129 : decode cX1_letterProperty 129 = .ok (.iload_n 2, 1) := by decide +kernel
theorem dX1_letterProperty_130 : decode cX1_letterProperty 130 = .ok (.iaload, 1) := by decide +kernel
theorem dX1_letterProperty_131 : decode cX1_letterProperty 131 = .ok (.ireturn, 1) := by decide +kernel
theorem dX1_letterProperty_132 : decode cX1_letterProperty 132 = .ok (.iload 4, 2) := by decide +kernel
theorem dX1_letterProperty_134 : decode cX1_letterProperty 134 = .ok (.iconst (-1), 1) := by decide +kernel
theorem dX1_letterProperty_135 : decode cX1_letterProperty 135 = .ok (.if_icmp .ne 5, 3) := by decide +kernel
theorem dX1_letterProperty_138 : decode cX1_letterProperty 138 = .ok (.iconst 0, 1) := by decide +kernel
theorem dX1_letterProperty_139 : decode cX1_letterProperty 139 = .ok (.ireturn, 1) := by decide +kernel
theorem dX1_letterProperty_140 : decode cX1_letterProperty 140 = .ok (.iload_n 1, 1) := by decide +kernel
theorem dX1_letterProperty_141 : decode cX1_letterProperty 141 = .ok (.ifCond .ne 16, 3) := by decide +kernel
theorem dX1_letterProperty_144 : decode cX1_letterProperty 144 = .ok (.aload_n 0, 1) := by decide +kernel
theorem dX1_letterProperty_145 : decode cX1_letterProperty 145 = .ok (.getfield 40, 3) := by decide +kernel
theorem dX1_letterProperty_148 : decode cX1_letterProperty 148 = .ok (.iload_n 2, 1) := by decide +kernel
theorem dX1_letterProperty_149 : decode cX1_letterProperty 149 = .ok (.iload 4, 2) := by decide +kernel
theorem dX1_letterProperty_151 : decode cX1_letterProperty 151 = .ok (.invokevirtual 111, 3) := by decide +kernel
theorem dX1_letterProperty_154 : decode cX1_letterProperty 154 = .ok (.goto 13, 3) := by decide +kernel
theorem dX1_letterProperty_157 : decode cX1_letterProperty 157 = .ok (.aload_n 0, 1) := by decide +kernel
theorem dX1_letterProperty_158 : decode cX1_letterProperty 158 = .ok (.getfield 40, 3) := by decide +kernel
theorem dX1_letterProperty_161 : decode cX1_letterProperty 161 = .ok (.iload 4, 2) := by decide +kernel
theorem dX1_letterProperty_163 : decode cX1_letterProperty 163 = .ok (.iload_n 2, 1) := by decide +kernel
theorem dX1_letterProperty_164 : decode cX1_letterProperty 164 = .ok (.invokevirtual 111, 3) := by decide +kernel
theorem dX1_letterProperty_167 : decode cX1_letterProperty 167 = .ok (.ireturn, 1) := by decide +kernel
theorem pd_X1_letterProperty : (parseMethodDescriptor yX1_letterProperty.desc).map (fun d => d.parameters.length) = some 3 := by decide +kernel
def w_X1_letterProperty (zz : Nat → Nat) (a0 : Nat) (a1 : Int) (a2 : Int) (a3 : Int) (h : AH) (Q : Int → AH → Prop) : Prop := jn (fun (t0_25 : Int) (h_25 : AH) => (a3 = 0 → okA h_25 a0 1 ∧ ∃ b65 : Nat, hfR h_25 a0 2 = some b65 ∧ okA h_25 b65 4 ∧ w_X4_text zz b65 a1 h_25 (fun (r69 : Nat) (h69 : AH) => okA h69 r69 5 ∧ w_X5_rowOf zz r69 a2 h69 (fun (r73 : Int) (h73 : AH) => Q r73 h73))) ∧ (a3 = 1 → okA h_25 a0 1 ∧ ∃ b78 : Nat, hfR h_25 a0 2 = some b78 ∧ okA h_25 b78 4 ∧ w_X4_text zz b78 a1 h_25 (fun (r82 : Nat) (h82 : AH) => okA h82 r82 5 ∧ w_X5_columnOf zz r82 a2 h82 (fun (r86 : Int) (h86 : AH) => Q r86 h86))) ∧ (a3 = 2 → okA h_25 a0 1 ∧ ∃ b91 : Nat, hfR h_25 a0 2 = some b91 ∧ okA h_25 b91 4 ∧ w_X4_text zz b91 a1 h_25 (fun (r95 : Nat) (h95 : AH) => okA h95 r95 5 ∧ w_X5_codeOf zz r95 a2 h95 (fun (r99 : Int) (h99 : AH) => Q r99 h99))) ∧ (a3 = 3 → Q t0_25 h_25) ∧ (a3 = 4 → jn (fun (t0_131 : Int) (h_131 : AH) => Q t0_131 h_131) (fun k_131 : Int → AH → Prop => ((¬ a1 = 0) → okA h_25 a0 1 ∧ ∃ b123 : Nat, hfR h_25 a0 0 = some b123 ∧ okA h_25 b123 3 ∧ ∃ b126 : Nat, hfR h_25 b123 3 = some b126 ∧ okI h_25 b126 a2 ∧ k_131 (haI h_25 b126 a2) h_25) ∧ ((a1 = 0) → okA h_25 a0 1 ∧ ∃ b111 : Nat, hfR h_25 a0 0 = some b111 ∧ okA h_25 b111 3 ∧ ∃ b114 : Nat, hfR h_25 b111 2 = some b114 ∧ okI h_25 b114 a2 ∧ k_131 (haI h_25 b114 a2) h_25))) ∧ ((a3 < 0 ∨ 4 < a3) → ((¬ t0_25 = (-1 : Int)) → jn (fun (t0_167 : Int) (h_167 : AH) => Q t0_167 h_167) (fun k_167 : Int → AH → Prop => ((¬ a1 = 0) → okA h_25 a0 1 ∧ ∃ b158 : Nat, hfR h_25 a0 0 = some b158 ∧ okA h_25 b158 3 ∧ w_X3_distance zz b158 t0_25 a2 h_25 (fun (r164 : Int) (h164 : AH) => k_167 r164 h164)) ∧ ((a1 = 0) → okA h_25 a0 1 ∧ ∃ b145 : Nat, hfR h_25 a0 0 = some b145 ∧ okA h_25 b145 3 ∧ w_X3_distance zz b145 a2 t0_25 h_25 (fun (r151 : Int) (h151 : AH) => k_167 r151 h151)))) ∧ ((t0_25 = (-1 : Int)) → Q (0 : Int) h_25))) (fun k_25 : Int → AH → Prop => ((¬ a1 = 0) → okA h a0 1 ∧ ∃ b17 : Nat, hfR h a0 0 = some b17 ∧ okA h b17 3 ∧ ∃ b20 : Nat, hfR h b17 1 = some b20 ∧ okI h b20 a2 ∧ k_25 (haI h b20 a2) h) ∧ ((a1 = 0) → okA h a0 1 ∧ ∃ b5 : Nat, hfR h a0 0 = some b5 ∧ okA h b5 3 ∧ ∃ b8 : Nat, hfR h b5 0 = some b8 ∧ okI h b8 a2 ∧ k_25 (haI h b8 a2) h))
set_option maxRecDepth 100000 in
set_option maxHeartbeats 4000000 in
theorem met_X1_letterProperty (G : GG) (l : Launch) : ∀ (As : List Value) (a0 : Nat) (a1 : Int) (a2 : Int) (a3 : Int) (h : AH) (Q : Int → AH → Prop), As.map ab = List.map some ([vR a0, vI a1, vI a2, vI a3] : List AV) → w_X1_letterProperty G.2.2 a0 a1 a2 a3 h Q → Met l yX1_letterProperty (.code yX1_letterProperty cX1_letterProperty 5 (some .int) :: xTb) ({ frames := 2, cells := 0, slots := 0, locals := 45 } : Room) (PcA G As h) (QG G (oI Q)) 0 0 (frA G) := by
  intro As a0 a1 a2 a3 h Q hA hw
  refine met_of hA (by decide) (Nat.le_of_ble_eq_true rfl) (fun p e s m args below meth c C hml hr hnm => ?_)
  unfold w_X1_letterProperty at hw
  refine aw_iload_n (pc := 0) C dX1_letterProperty_0 rfl rfl ?_
  obtain ⟨k_25, hk_25, hw⟩ := jn_out hw
  have J_25 : ∀ (t0_25 : Int) (h_25 : AH), k_25 t0_25 h_25 → AW G p l e ({ frames := 2, cells := 0, slots := 0, locals := 45 } : Room) s m args below meth c 0 0 (MQ below (QG G (oI Q)) args s 0 0 (frA G)) 25 (eOf [(0, vR a0), (1, vI a1), (2, vI a2), (3, vI a3)]) [vI t0_25] h_25 := by
    intro t0_25 h_25 hw
    rw [hk_25] at hw
    refine aw_istore (pc := 25) C dX1_letterProperty_25 (by rw [hml]; decide) ?_
    refine aw_iload_n (pc := 27) C dX1_letterProperty_27 rfl rfl ?_
    have hcs9 : a3 = 0 ∨ a3 = 1 ∨ a3 = 2 ∨ a3 = 3 ∨ a3 = 4 ∨ (a3 < 0 ∨ 4 < a3) := by omega
    rcases hcs9 with hc9 | hc9 | hc9 | hc9 | hc9 | hc9
    · have hw := hw.1 hc9
      refine aw_tableIn (pc := 28) (off := 36) (tgt := 64) C dX1_letterProperty_28 (by omega) (by omega) (by rw [hc9]; rfl) (by decide) ?_
      refine aw_aload_n (pc := 64) C dX1_letterProperty_64 rfl rfl ?_
      obtain ⟨hp9, b65, hb9, hw⟩ := hw
      refine aw_getR (pc := 65) C (ci := 1) (k := 2) ci1 (by decide) tw172 dX1_letterProperty_65 rfl hp9 hb9 ?_
      refine aw_iload_n (pc := 68) C dX1_letterProperty_68 rfl rfl ?_
      obtain ⟨hp9, hw⟩ := hw
      refine aw_callV (pc := 69) (as := [vI a1]) C ci4 (fun As hA => met_X4_text G l As b65 a1 _ _ hA hw) tw414 tw333 tw334 tw2 tw335 ⟨rfl, rfl⟩ ⟨rfl, by decide, by decide, pd_X4_text⟩ ⟨Nat.le_of_ble_eq_true rfl, Nat.le_of_ble_eq_true rfl⟩ ⟨Nat.zero_le _, Nat.zero_le _⟩ (Nat.le_of_ble_eq_true rfl) dX1_letterProperty_69 rfl hp9 (fun v9 h69 hq9 => ?_)
      obtain ⟨r69, rfl, hw⟩ := hq9
      refine aw_iload_n (pc := 72) C dX1_letterProperty_72 rfl rfl ?_
      obtain ⟨hp9, hw⟩ := hw
      refine aw_callV (pc := 73) (as := [vI a2]) C ci5 (fun As hA => met_X5_rowOf G l As r69 a2 _ _ hA hw) tw442 tw368 tw369 tw3 tw370 ⟨rfl, rfl⟩ ⟨rfl, by decide, by decide, pd_X5_rowOf⟩ ⟨Nat.le_of_ble_eq_true rfl, Nat.le_of_ble_eq_true rfl⟩ ⟨Nat.zero_le _, Nat.zero_le _⟩ (Nat.le_of_ble_eq_true rfl) dX1_letterProperty_73 rfl hp9 (fun v9 h73 hq9 => ?_)
      obtain ⟨r73, rfl, hw⟩ := hq9
      exact aw_iret (pc := 76) C hr dX1_letterProperty_76 ⟨Nat.le_of_ble_eq_true rfl, Nat.le_of_ble_eq_true rfl⟩ ⟨_, rfl, hw⟩
    · have hw := hw.2.1 hc9
      refine aw_tableIn (pc := 28) (off := 49) (tgt := 77) C dX1_letterProperty_28 (by omega) (by omega) (by rw [hc9]; rfl) (by decide) ?_
      refine aw_aload_n (pc := 77) C dX1_letterProperty_77 rfl rfl ?_
      obtain ⟨hp9, b78, hb9, hw⟩ := hw
      refine aw_getR (pc := 78) C (ci := 1) (k := 2) ci1 (by decide) tw172 dX1_letterProperty_78 rfl hp9 hb9 ?_
      refine aw_iload_n (pc := 81) C dX1_letterProperty_81 rfl rfl ?_
      obtain ⟨hp9, hw⟩ := hw
      refine aw_callV (pc := 82) (as := [vI a1]) C ci4 (fun As hA => met_X4_text G l As b78 a1 _ _ hA hw) tw414 tw333 tw334 tw2 tw335 ⟨rfl, rfl⟩ ⟨rfl, by decide, by decide, pd_X4_text⟩ ⟨Nat.le_of_ble_eq_true rfl, Nat.le_of_ble_eq_true rfl⟩ ⟨Nat.zero_le _, Nat.zero_le _⟩ (Nat.le_of_ble_eq_true rfl) dX1_letterProperty_82 rfl hp9 (fun v9 h82 hq9 => ?_)
      obtain ⟨r82, rfl, hw⟩ := hq9
      refine aw_iload_n (pc := 85) C dX1_letterProperty_85 rfl rfl ?_
      obtain ⟨hp9, hw⟩ := hw
      refine aw_callV (pc := 86) (as := [vI a2]) C ci5 (fun As hA => met_X5_columnOf G l As r82 a2 _ _ hA hw) tw440 tw376 tw377 tw3 tw378 ⟨rfl, rfl⟩ ⟨rfl, by decide, by decide, pd_X5_columnOf⟩ ⟨Nat.le_of_ble_eq_true rfl, Nat.le_of_ble_eq_true rfl⟩ ⟨Nat.zero_le _, Nat.zero_le _⟩ (Nat.le_of_ble_eq_true rfl) dX1_letterProperty_86 rfl hp9 (fun v9 h86 hq9 => ?_)
      obtain ⟨r86, rfl, hw⟩ := hq9
      exact aw_iret (pc := 89) C hr dX1_letterProperty_89 ⟨Nat.le_of_ble_eq_true rfl, Nat.le_of_ble_eq_true rfl⟩ ⟨_, rfl, hw⟩
    · have hw := hw.2.2.1 hc9
      refine aw_tableIn (pc := 28) (off := 62) (tgt := 90) C dX1_letterProperty_28 (by omega) (by omega) (by rw [hc9]; rfl) (by decide) ?_
      refine aw_aload_n (pc := 90) C dX1_letterProperty_90 rfl rfl ?_
      obtain ⟨hp9, b91, hb9, hw⟩ := hw
      refine aw_getR (pc := 91) C (ci := 1) (k := 2) ci1 (by decide) tw172 dX1_letterProperty_91 rfl hp9 hb9 ?_
      refine aw_iload_n (pc := 94) C dX1_letterProperty_94 rfl rfl ?_
      obtain ⟨hp9, hw⟩ := hw
      refine aw_callV (pc := 95) (as := [vI a1]) C ci4 (fun As hA => met_X4_text G l As b91 a1 _ _ hA hw) tw414 tw333 tw334 tw2 tw335 ⟨rfl, rfl⟩ ⟨rfl, by decide, by decide, pd_X4_text⟩ ⟨Nat.le_of_ble_eq_true rfl, Nat.le_of_ble_eq_true rfl⟩ ⟨Nat.zero_le _, Nat.zero_le _⟩ (Nat.le_of_ble_eq_true rfl) dX1_letterProperty_95 rfl hp9 (fun v9 h95 hq9 => ?_)
      obtain ⟨r95, rfl, hw⟩ := hq9
      refine aw_iload_n (pc := 98) C dX1_letterProperty_98 rfl rfl ?_
      obtain ⟨hp9, hw⟩ := hw
      refine aw_callV (pc := 99) (as := [vI a2]) C ci5 (fun As hA => met_X5_codeOf G l As r95 a2 _ _ hA hw) tw514 tw345 tw346 tw3 tw347 ⟨rfl, rfl⟩ ⟨rfl, by decide, by decide, pd_X5_codeOf⟩ ⟨Nat.le_of_ble_eq_true rfl, Nat.le_of_ble_eq_true rfl⟩ ⟨Nat.zero_le _, Nat.zero_le _⟩ (Nat.le_of_ble_eq_true rfl) dX1_letterProperty_99 rfl hp9 (fun v9 h99 hq9 => ?_)
      obtain ⟨r99, rfl, hw⟩ := hq9
      exact aw_iret (pc := 102) C hr dX1_letterProperty_102 ⟨Nat.le_of_ble_eq_true rfl, Nat.le_of_ble_eq_true rfl⟩ ⟨_, rfl, hw⟩
    · have hw := hw.2.2.2.1 hc9
      refine aw_tableIn (pc := 28) (off := 75) (tgt := 103) C dX1_letterProperty_28 (by omega) (by omega) (by rw [hc9]; rfl) (by decide) ?_
      refine aw_iload (pc := 103) C dX1_letterProperty_103 rfl ?_
      exact aw_iret (pc := 105) C hr dX1_letterProperty_105 ⟨Nat.le_of_ble_eq_true rfl, Nat.le_of_ble_eq_true rfl⟩ ⟨_, rfl, hw⟩
    · have hw := hw.2.2.2.2.1 hc9
      refine aw_tableIn (pc := 28) (off := 78) (tgt := 106) C dX1_letterProperty_28 (by omega) (by omega) (by rw [hc9]; rfl) (by decide) ?_
      refine aw_iload_n (pc := 106) C dX1_letterProperty_106 rfl rfl ?_
      obtain ⟨k_131, hk_131, hw⟩ := jn_out hw
      have J_131 : ∀ (t0_131 : Int) (h_131 : AH), k_131 t0_131 h_131 → AW G p l e ({ frames := 2, cells := 0, slots := 0, locals := 45 } : Room) s m args below meth c 0 0 (MQ below (QG G (oI Q)) args s 0 0 (frA G)) 131 (eOf []) [vI t0_131] h_131 := by
        intro t0_131 h_131 hw
        rw [hk_131] at hw
        exact aw_iret (pc := 131) C hr dX1_letterProperty_131 ⟨Nat.le_of_ble_eq_true rfl, Nat.le_of_ble_eq_true rfl⟩ ⟨_, rfl, hw⟩
      refine aw_if_ne (pc := 107) (tgt := 122) C dX1_letterProperty_107 (by decide) (fun hc9 => ?_) (fun hc9 => ?_)
      · have hw := hw.1 hc9
        refine aw_aload_n (pc := 122) C dX1_letterProperty_122 rfl rfl ?_
        obtain ⟨hp9, b123, hb9, hw⟩ := hw
        refine aw_getR (pc := 123) C (ci := 1) (k := 0) ci1 (by decide) tw169 dX1_letterProperty_123 rfl hp9 hb9 ?_
        obtain ⟨hp9, b126, hb9, hw⟩ := hw
        refine aw_getR (pc := 126) C (ci := 3) (k := 3) ci3 (by decide) tw97 dX1_letterProperty_126 rfl hp9 hb9 ?_
        refine aw_iload_n (pc := 129) C dX1_letterProperty_129 rfl rfl ?_
        obtain ⟨⟨k9, hp9⟩, hw⟩ := hw
        refine aw_iald (pc := 130) C dX1_letterProperty_130 hp9 ?_
        refine aw_sub [] trivial ?_
        exact J_131 _ _ hw
      · have hw := hw.2 hc9
        refine aw_aload_n (pc := 110) C dX1_letterProperty_110 rfl rfl ?_
        obtain ⟨hp9, b111, hb9, hw⟩ := hw
        refine aw_getR (pc := 111) C (ci := 1) (k := 0) ci1 (by decide) tw169 dX1_letterProperty_111 rfl hp9 hb9 ?_
        obtain ⟨hp9, b114, hb9, hw⟩ := hw
        refine aw_getR (pc := 114) C (ci := 3) (k := 2) ci3 (by decide) tw95 dX1_letterProperty_114 rfl hp9 hb9 ?_
        refine aw_iload_n (pc := 117) C dX1_letterProperty_117 rfl rfl ?_
        obtain ⟨⟨k9, hp9⟩, hw⟩ := hw
        refine aw_iald (pc := 118) C dX1_letterProperty_118 hp9 ?_
        refine aw_goto (pc := 119) (tgt := 131) C dX1_letterProperty_119 (by decide) ?_
        refine aw_sub [] trivial ?_
        exact J_131 _ _ hw
    · have hw := hw.2.2.2.2.2 hc9
      refine aw_tableOut (pc := 28) (tgt := 132) C dX1_letterProperty_28 hc9 (by decide) ?_
      refine aw_iload (pc := 132) C dX1_letterProperty_132 rfl ?_
      refine aw_iconst (pc := 134) C dX1_letterProperty_134 (i := (-1 : Int)) (by decide) ?_
      refine aw_icmp_ne (pc := 135) (tgt := 140) C dX1_letterProperty_135 (by decide) (fun hc9 => ?_) (fun hc9 => ?_)
      · have hw := hw.1 hc9
        refine aw_iload_n (pc := 140) C dX1_letterProperty_140 rfl rfl ?_
        obtain ⟨k_167, hk_167, hw⟩ := jn_out hw
        have J_167 : ∀ (t0_167 : Int) (h_167 : AH), k_167 t0_167 h_167 → AW G p l e ({ frames := 2, cells := 0, slots := 0, locals := 45 } : Room) s m args below meth c 0 0 (MQ below (QG G (oI Q)) args s 0 0 (frA G)) 167 (eOf []) [vI t0_167] h_167 := by
          intro t0_167 h_167 hw
          rw [hk_167] at hw
          exact aw_iret (pc := 167) C hr dX1_letterProperty_167 ⟨Nat.le_of_ble_eq_true rfl, Nat.le_of_ble_eq_true rfl⟩ ⟨_, rfl, hw⟩
        refine aw_if_ne (pc := 141) (tgt := 157) C dX1_letterProperty_141 (by decide) (fun hc9 => ?_) (fun hc9 => ?_)
        · have hw := hw.1 hc9
          refine aw_aload_n (pc := 157) C dX1_letterProperty_157 rfl rfl ?_
          obtain ⟨hp9, b158, hb9, hw⟩ := hw
          refine aw_getR (pc := 158) C (ci := 1) (k := 0) ci1 (by decide) tw169 dX1_letterProperty_158 rfl hp9 hb9 ?_
          refine aw_iload (pc := 161) C dX1_letterProperty_161 rfl ?_
          refine aw_iload_n (pc := 163) C dX1_letterProperty_163 rfl rfl ?_
          obtain ⟨hp9, hw⟩ := hw
          refine aw_callV (pc := 164) (as := [vI t0_25, vI a2]) C ci3 (fun As hA => met_X3_distance G l As b158 t0_25 a2 _ _ hA hw) tw431 tw372 tw373 tw7 tw374 ⟨rfl, rfl⟩ ⟨rfl, by decide, by decide, pd_X3_distance⟩ ⟨Nat.le_of_ble_eq_true rfl, Nat.le_of_ble_eq_true rfl⟩ ⟨Nat.zero_le _, Nat.zero_le _⟩ (Nat.le_of_ble_eq_true rfl) dX1_letterProperty_164 rfl hp9 (fun v9 h164 hq9 => ?_)
          obtain ⟨r164, rfl, hw⟩ := hq9
          refine aw_sub [] trivial ?_
          exact J_167 _ _ hw
        · have hw := hw.2 hc9
          refine aw_aload_n (pc := 144) C dX1_letterProperty_144 rfl rfl ?_
          obtain ⟨hp9, b145, hb9, hw⟩ := hw
          refine aw_getR (pc := 145) C (ci := 1) (k := 0) ci1 (by decide) tw169 dX1_letterProperty_145 rfl hp9 hb9 ?_
          refine aw_iload_n (pc := 148) C dX1_letterProperty_148 rfl rfl ?_
          refine aw_iload (pc := 149) C dX1_letterProperty_149 rfl ?_
          obtain ⟨hp9, hw⟩ := hw
          refine aw_callV (pc := 151) (as := [vI a2, vI t0_25]) C ci3 (fun As hA => met_X3_distance G l As b145 a2 t0_25 _ _ hA hw) tw431 tw372 tw373 tw7 tw374 ⟨rfl, rfl⟩ ⟨rfl, by decide, by decide, pd_X3_distance⟩ ⟨Nat.le_of_ble_eq_true rfl, Nat.le_of_ble_eq_true rfl⟩ ⟨Nat.zero_le _, Nat.zero_le _⟩ (Nat.le_of_ble_eq_true rfl) dX1_letterProperty_151 rfl hp9 (fun v9 h151 hq9 => ?_)
          obtain ⟨r151, rfl, hw⟩ := hq9
          refine aw_goto (pc := 154) (tgt := 167) C dX1_letterProperty_154 (by decide) ?_
          refine aw_sub [] trivial ?_
          exact J_167 _ _ hw
      · have hw := hw.2 hc9
        refine aw_iconst (pc := 138) C dX1_letterProperty_138 (i := (0 : Int)) (by decide) ?_
        exact aw_iret (pc := 139) C hr dX1_letterProperty_139 ⟨Nat.le_of_ble_eq_true rfl, Nat.le_of_ble_eq_true rfl⟩ ⟨_, rfl, hw⟩
  refine aw_if_ne (pc := 1) (tgt := 16) C dX1_letterProperty_1 (by decide) (fun hc9 => ?_) (fun hc9 => ?_)
  · have hw := hw.1 hc9
    refine aw_aload_n (pc := 16) C dX1_letterProperty_16 rfl rfl ?_
    obtain ⟨hp9, b17, hb9, hw⟩ := hw
    refine aw_getR (pc := 17) C (ci := 1) (k := 0) ci1 (by decide) tw169 dX1_letterProperty_17 rfl hp9 hb9 ?_
    obtain ⟨hp9, b20, hb9, hw⟩ := hw
    refine aw_getR (pc := 20) C (ci := 3) (k := 1) ci3 (by decide) tw93 dX1_letterProperty_20 rfl hp9 hb9 ?_
    refine aw_iload_n (pc := 23) C dX1_letterProperty_23 rfl rfl ?_
    obtain ⟨⟨k9, hp9⟩, hw⟩ := hw
    refine aw_iald (pc := 24) C dX1_letterProperty_24 hp9 ?_
    refine aw_sub [(0, vR a0), (1, vI a1), (2, vI a2), (3, vI a3)] ⟨rfl, rfl, rfl, rfl, trivial⟩ ?_
    exact J_25 _ _ hw
  · have hw := hw.2 hc9
    refine aw_aload_n (pc := 4) C dX1_letterProperty_4 rfl rfl ?_
    obtain ⟨hp9, b5, hb9, hw⟩ := hw
    refine aw_getR (pc := 5) C (ci := 1) (k := 0) ci1 (by decide) tw169 dX1_letterProperty_5 rfl hp9 hb9 ?_
    obtain ⟨hp9, b8, hb9, hw⟩ := hw
    refine aw_getR (pc := 8) C (ci := 3) (k := 0) ci3 (by decide) tw90 dX1_letterProperty_8 rfl hp9 hb9 ?_
    refine aw_iload_n (pc := 11) C dX1_letterProperty_11 rfl rfl ?_
    obtain ⟨⟨k9, hp9⟩, hw⟩ := hw
    refine aw_iald (pc := 12) C dX1_letterProperty_12 hp9 ?_
    refine aw_goto (pc := 13) (tgt := 25) C dX1_letterProperty_13 (by decide) ?_
    refine aw_sub [(0, vR a0), (1, vI a1), (2, vI a2), (3, vI a3)] ⟨rfl, rfl, rfl, rfl, trivial⟩ ?_
    exact J_25 _ _ hw
theorem dX1_wayProperty_0 : decode cX1_wayProperty 0 = .ok (.iload_n 2, 1) := by decide +kernel
theorem dX1_wayProperty_1 : decode cX1_wayProperty 1 = .ok (.lookupswitch 43 #[(0, 27), (1, 33)], 27) := by decide +kernel
theorem dX1_wayProperty_28 : decode cX1_wayProperty 28 = .ok (.aload_n 0, 1) := by decide +kernel
theorem dX1_wayProperty_29 : decode cX1_wayProperty 29 = .ok (.iload_n 1, 1) := by decide +kernel
theorem dX1_wayProperty_30 : decode cX1_wayProperty 30 = .ok (.invokevirtual 115, 3) := by decide +kernel
theorem dX1_wayProperty_33 : decode cX1_wayProperty 33 = .ok (.ireturn, 1) := by decide +kernel
theorem dX1_wayProperty_34 : decode cX1_wayProperty 34 = .ok (.aload_n 0, 1) := by decide +kernel
theorem dX1_wayProperty_35 : decode cX1_wayProperty 35 = .ok (.getfield 49, 3) := by decide +kernel
theorem dX1_wayProperty_38 : decode cX1_wayProperty 38 = .ok (.getfield 118, 3) := by decide +kernel
theorem dX1_wayProperty_41 : decode cX1_wayProperty 41 = .ok (.iload_n 1, 1) := by decide +kernel
theorem dX1_wayProperty_42 : decode cX1_wayProperty 42 = .ok (.iaload, 1) := by decide +kernel
theorem dX1_wayProperty_43 : decode cX1_wayProperty 43 = .ok (.ireturn, 1) := by decide +kernel
theorem dX1_wayProperty_44 : decode cX1_wayProperty 44 = .ok (.aload_n 0, 1) := by decide +kernel
theorem dX1_wayProperty_45 : decode cX1_wayProperty 45 = .ok (.iload_n 1, 1) := by decide +kernel
theorem dX1_wayProperty_46 : decode cX1_wayProperty 46 = .ok (.invokevirtual 121, 3) := by decide +kernel
theorem dX1_wayProperty_49 : decode cX1_wayProperty 49 = .ok (.ifCond .eq 10, 3) := by decide +kernel
theorem dX1_wayProperty_52 : decode cX1_wayProperty 52 = .ok (.aload_n 0, 1) := by decide +kernel
theorem dX1_wayProperty_53 : decode cX1_wayProperty 53 = .ok (.getfield 9, 3) := by decide +kernel
theorem dX1_wayProperty_56 : decode cX1_wayProperty 56 = .ok (.iload_n 1, 1) := by decide +kernel
theorem dX1_wayProperty_57 : decode cX1_wayProperty 57 = .ok (.iaload, 1) := by decide +kernel
theorem dX1_wayProperty_58 : decode cX1_wayProperty 58 = .ok (.ireturn, 1) := by decide +kernel
theorem dX1_wayProperty_59 : decode cX1_wayProperty 59 = .ok (.aload_n 0, 1) := by decide +kernel
theorem dX1_wayProperty_60 : decode cX1_wayProperty 60 = .ok (.getfield 49, 3) := by decide +kernel
theorem dX1_wayProperty_63 : decode cX1_wayProperty 63 = .ok (.getfield 125, 3) := by decide +kernel
theorem dX1_wayProperty_66 : decode cX1_wayProperty 66 = .ok (.iload_n 1, 1) := by decide +kernel
theorem dX1_wayProperty_67 : decode cX1_wayProperty 67 = .ok (.iaload, 1) := by decide +kernel
theorem dX1_wayProperty_68 : decode cX1_wayProperty 68 = .ok (.ifCond .ne 7, 3) := by decide +kernel
theorem dX1_wayProperty_71 : decode cX1_wayProperty 71 = .ok (.iconst 0, 1) := by decide +kernel
theorem dX1_wayProperty_72 : decode cX1_wayProperty 72 = .ok (.goto 17, 3) := by decide +kernel
theorem dX1_wayProperty_75 : decode cX1_wayProperty 75 = .ok (.aload_n 0, 1) := by decide +kernel
theorem dX1_wayProperty_76 : decode cX1_wayProperty 76 = .ok (.getfield 27, 3) := by decide +kernel
theorem dX1_wayProperty_79 : decode cX1_wayProperty 79 = .ok (.aload_n 0, 1) := by decide +kernel
theorem dX1_wayProperty_80 : decode cX1_wayProperty 80 = .ok (.getfield 49, 3) := by decide +kernel
theorem dX1_wayProperty_83 : decode cX1_wayProperty 83 = .ok (.getfield 125, 3) := by decide +kernel
theorem dX1_wayProperty_86 : decode cX1_wayProperty 86 = .ok (.iload_n 1, 1) := by decide +kernel
theorem dX1_wayProperty_87 : decode cX1_wayProperty 87 = .ok (.iaload, 1) := by decide +kernel
theorem dX1_wayProperty_88 : decode cX1_wayProperty 88 = .ok (.iadd, 1) := by decide +kernel
theorem dX1_wayProperty_89 : decode cX1_wayProperty 89 = .ok (.ireturn, 1) := by decide +kernel
theorem pd_X1_wayProperty : (parseMethodDescriptor yX1_wayProperty.desc).map (fun d => d.parameters.length) = some 2 := by decide +kernel
def w_X1_wayProperty (zz : Nat → Nat) (a0 : Nat) (a1 : Int) (a2 : Int) (h : AH) (Q : Int → AH → Prop) : Prop := (a2 = 0 → okA h a0 1 ∧ w_X1_steps zz a0 a1 h (fun (r30 : Int) (h30 : AH) => Q r30 h30)) ∧ (a2 = 1 → okA h a0 1 ∧ ∃ b35 : Nat, hfR h a0 1 = some b35 ∧ okA h b35 2 ∧ ∃ b38 : Nat, hfR h b35 1 = some b38 ∧ okI h b38 a1 ∧ Q (haI h b38 a1) h) ∧ ((¬ a2 = 0 ∧ ¬ a2 = 1) → okA h a0 1 ∧ w_X1_vanishes zz a0 a1 h (fun (r46 : Int) (h46 : AH) => ((r46 = 0) → okA h46 a0 1 ∧ ∃ b60 : Nat, hfR h46 a0 1 = some b60 ∧ okA h46 b60 2 ∧ ∃ b63 : Nat, hfR h46 b60 2 = some b63 ∧ okI h46 b63 a1 ∧ jn (fun (t0_89 : Int) (h_89 : AH) => Q t0_89 h_89) (fun k_89 : Int → AH → Prop => ((¬ (haI h46 b63 a1) = 0) → okA h46 a0 1 ∧ okA h46 a0 1 ∧ ∃ b80 : Nat, hfR h46 a0 1 = some b80 ∧ okA h46 b80 2 ∧ ∃ b83 : Nat, hfR h46 b80 2 = some b83 ∧ okI h46 b83 a1 ∧ inR ((hfI h46 a0 8) + (haI h46 b83 a1)) ∧ k_89 ((hfI h46 a0 8) + (haI h46 b83 a1)) h46) ∧ (((haI h46 b63 a1) = 0) → k_89 (0 : Int) h46))) ∧ ((¬ (r46 = 0)) → okA h46 a0 1 ∧ ∃ b53 : Nat, hfR h46 a0 3 = some b53 ∧ okI h46 b53 a1 ∧ Q (haI h46 b53 a1) h46)))
set_option maxRecDepth 100000 in
set_option maxHeartbeats 4000000 in
theorem met_X1_wayProperty (G : GG) (l : Launch) : ∀ (As : List Value) (a0 : Nat) (a1 : Int) (a2 : Int) (h : AH) (Q : Int → AH → Prop), As.map ab = List.map some ([vR a0, vI a1, vI a2] : List AV) → w_X1_wayProperty G.2.2 a0 a1 a2 h Q → Met l yX1_wayProperty (.code yX1_wayProperty cX1_wayProperty 3 (some .int) :: xTb) ({ frames := 2, cells := 0, slots := 0, locals := 43 } : Room) (PcA G As h) (QG G (oI Q)) 0 0 (frA G) := by
  intro As a0 a1 a2 h Q hA hw
  refine met_of hA (by decide) (Nat.le_of_ble_eq_true rfl) (fun p e s m args below meth c C hml hr hnm => ?_)
  unfold w_X1_wayProperty at hw
  refine aw_iload_n (pc := 0) C dX1_wayProperty_0 rfl rfl ?_
  have hcs9 : a2 = 0 ∨ a2 = 1 ∨ (¬ a2 = 0 ∧ ¬ a2 = 1) := by omega
  rcases hcs9 with hc9 | hc9 | hc9
  · have hw := hw.1 hc9
    refine aw_lookup (pc := 1) (off := 27) (tgt := 28) C dX1_wayProperty_1 (by decide) (by rw [hc9]; rfl) (by decide) ?_
    refine aw_aload_n (pc := 28) C dX1_wayProperty_28 rfl rfl ?_
    refine aw_iload_n (pc := 29) C dX1_wayProperty_29 rfl rfl ?_
    obtain ⟨hp9, hw⟩ := hw
    refine aw_callV (pc := 30) (as := [vI a1]) C ci1 (fun As hA => met_X1_steps G l As a0 a1 _ _ hA hw) tw436 tw438 (tbp 18 (n := 9) (by decide +kernel)) tw6 tw439 ⟨rfl, rfl⟩ ⟨rfl, by decide, by decide, pd_X1_steps⟩ ⟨Nat.le_of_ble_eq_true rfl, Nat.le_of_ble_eq_true rfl⟩ ⟨Nat.zero_le _, Nat.zero_le _⟩ (Nat.le_of_ble_eq_true rfl) dX1_wayProperty_30 rfl hp9 (fun v9 h30 hq9 => ?_)
    obtain ⟨r30, rfl, hw⟩ := hq9
    exact aw_iret (pc := 33) C hr dX1_wayProperty_33 ⟨Nat.le_of_ble_eq_true rfl, Nat.le_of_ble_eq_true rfl⟩ ⟨_, rfl, hw⟩
  · have hw := hw.2.1 hc9
    refine aw_lookup (pc := 1) (off := 33) (tgt := 34) C dX1_wayProperty_1 (by decide) (by rw [hc9]; rfl) (by decide) ?_
    refine aw_aload_n (pc := 34) C dX1_wayProperty_34 rfl rfl ?_
    obtain ⟨hp9, b35, hb9, hw⟩ := hw
    refine aw_getR (pc := 35) C (ci := 1) (k := 1) ci1 (by decide) tw171 dX1_wayProperty_35 rfl hp9 hb9 ?_
    obtain ⟨hp9, b38, hb9, hw⟩ := hw
    refine aw_getR (pc := 38) C (ci := 2) (k := 1) ci2 (by decide) tw127 dX1_wayProperty_38 rfl hp9 hb9 ?_
    refine aw_iload_n (pc := 41) C dX1_wayProperty_41 rfl rfl ?_
    obtain ⟨⟨k9, hp9⟩, hw⟩ := hw
    refine aw_iald (pc := 42) C dX1_wayProperty_42 hp9 ?_
    exact aw_iret (pc := 43) C hr dX1_wayProperty_43 ⟨Nat.le_of_ble_eq_true rfl, Nat.le_of_ble_eq_true rfl⟩ ⟨_, rfl, hw⟩
  · have hw := hw.2.2 hc9
    refine aw_lookup (pc := 1) (off := 43) (tgt := 44) C dX1_wayProperty_1 (by decide) (by rw [Op.lookupswitch.offset_cons, if_neg (by omega)]; rw [Op.lookupswitch.offset_cons, if_neg (by omega)]; rfl) (by decide) ?_
    refine aw_aload_n (pc := 44) C dX1_wayProperty_44 rfl rfl ?_
    refine aw_iload_n (pc := 45) C dX1_wayProperty_45 rfl rfl ?_
    obtain ⟨hp9, hw⟩ := hw
    refine aw_callV (pc := 46) (as := [vI a1]) C ci1 (fun As hA => met_X1_vanishes G l As a0 a1 _ _ hA hw) tw427 tw429 (tbp 16 (n := 9) (by decide +kernel)) tw6 tw430 ⟨rfl, rfl⟩ ⟨rfl, by decide, by decide, pd_X1_vanishes⟩ ⟨Nat.le_of_ble_eq_true rfl, Nat.le_of_ble_eq_true rfl⟩ ⟨Nat.zero_le _, Nat.zero_le _⟩ (Nat.le_of_ble_eq_true rfl) dX1_wayProperty_46 rfl hp9 (fun v9 h46 hq9 => ?_)
    obtain ⟨r46, rfl, hw⟩ := hq9
    refine aw_if_eq (pc := 49) (tgt := 59) C dX1_wayProperty_49 (by decide) (fun hc9 => ?_) (fun hc9 => ?_)
    · have hw := hw.1 hc9
      refine aw_aload_n (pc := 59) C dX1_wayProperty_59 rfl rfl ?_
      obtain ⟨hp9, b60, hb9, hw⟩ := hw
      refine aw_getR (pc := 60) C (ci := 1) (k := 1) ci1 (by decide) tw171 dX1_wayProperty_60 rfl hp9 hb9 ?_
      obtain ⟨hp9, b63, hb9, hw⟩ := hw
      refine aw_getR (pc := 63) C (ci := 2) (k := 2) ci2 (by decide) tw129 dX1_wayProperty_63 rfl hp9 hb9 ?_
      refine aw_iload_n (pc := 66) C dX1_wayProperty_66 rfl rfl ?_
      obtain ⟨⟨k9, hp9⟩, hw⟩ := hw
      refine aw_iald (pc := 67) C dX1_wayProperty_67 hp9 ?_
      obtain ⟨k_89, hk_89, hw⟩ := jn_out hw
      have J_89 : ∀ (t0_89 : Int) (h_89 : AH), k_89 t0_89 h_89 → AW G p l e ({ frames := 2, cells := 0, slots := 0, locals := 43 } : Room) s m args below meth c 0 0 (MQ below (QG G (oI Q)) args s 0 0 (frA G)) 89 (eOf []) [vI t0_89] h_89 := by
        intro t0_89 h_89 hw
        rw [hk_89] at hw
        exact aw_iret (pc := 89) C hr dX1_wayProperty_89 ⟨Nat.le_of_ble_eq_true rfl, Nat.le_of_ble_eq_true rfl⟩ ⟨_, rfl, hw⟩
      refine aw_if_ne (pc := 68) (tgt := 75) C dX1_wayProperty_68 (by decide) (fun hc9 => ?_) (fun hc9 => ?_)
      · have hw := hw.1 hc9
        refine aw_aload_n (pc := 75) C dX1_wayProperty_75 rfl rfl ?_
        obtain ⟨hp9, hw⟩ := hw
        refine aw_getI (pc := 76) C (ci := 1) (k := 8) ci1 (by decide) tw178 dX1_wayProperty_76 rfl hp9 ?_
        refine aw_aload_n (pc := 79) C dX1_wayProperty_79 rfl rfl ?_
        obtain ⟨hp9, b80, hb9, hw⟩ := hw
        refine aw_getR (pc := 80) C (ci := 1) (k := 1) ci1 (by decide) tw171 dX1_wayProperty_80 rfl hp9 hb9 ?_
        obtain ⟨hp9, b83, hb9, hw⟩ := hw
        refine aw_getR (pc := 83) C (ci := 2) (k := 2) ci2 (by decide) tw129 dX1_wayProperty_83 rfl hp9 hb9 ?_
        refine aw_iload_n (pc := 86) C dX1_wayProperty_86 rfl rfl ?_
        obtain ⟨⟨k9, hp9⟩, hw⟩ := hw
        refine aw_iald (pc := 87) C dX1_wayProperty_87 hp9 ?_
        obtain ⟨hp9, hw⟩ := hw
        refine aw_iadd (pc := 88) C dX1_wayProperty_88 hp9 ?_
        refine aw_sub [] trivial ?_
        exact J_89 _ _ hw
      · have hw := hw.2 hc9
        refine aw_iconst (pc := 71) C dX1_wayProperty_71 (i := (0 : Int)) (by decide) ?_
        refine aw_goto (pc := 72) (tgt := 89) C dX1_wayProperty_72 (by decide) ?_
        refine aw_sub [] trivial ?_
        exact J_89 _ _ hw
    · have hw := hw.2 hc9
      refine aw_aload_n (pc := 52) C dX1_wayProperty_52 rfl rfl ?_
      obtain ⟨hp9, b53, hb9, hw⟩ := hw
      refine aw_getR (pc := 53) C (ci := 1) (k := 3) ci1 (by decide) tw173 dX1_wayProperty_53 rfl hp9 hb9 ?_
      refine aw_iload_n (pc := 56) C dX1_wayProperty_56 rfl rfl ?_
      obtain ⟨⟨k9, hp9⟩, hw⟩ := hw
      refine aw_iald (pc := 57) C dX1_wayProperty_57 hp9 ?_
      exact aw_iret (pc := 58) C hr dX1_wayProperty_58 ⟨Nat.le_of_ble_eq_true rfl, Nat.le_of_ble_eq_true rfl⟩ ⟨_, rfl, hw⟩
theorem dX1_isGone_0 : decode cX1_isGone 0 = .ok (.aload_n 0, 1) := by decide +kernel
theorem dX1_isGone_1 : decode cX1_isGone 1 = .ok (.iload_n 1, 1) := by decide +kernel
theorem dX1_isGone_2 : decode cX1_isGone 2 = .ok (.invokevirtual 121, 3) := by decide +kernel
theorem dX1_isGone_5 : decode cX1_isGone 5 = .ok (.ifCond .eq 17, 3) := by decide +kernel
theorem dX1_isGone_8 : decode cX1_isGone 8 = .ok (.iload_n 2, 1) := by decide +kernel
theorem dX1_isGone_9 : decode cX1_isGone 9 = .ok (.aload_n 0, 1) := by decide +kernel
theorem dX1_isGone_10 : decode cX1_isGone 10 = .ok (.getfield 9, 3) := by decide +kernel
theorem dX1_isGone_13 : decode cX1_isGone 13 = .ok (.iload_n 1, 1) := by decide +kernel
theorem dX1_isGone_14 : decode cX1_isGone 14 = .ok (.iaload, 1) := by decide +kernel
theorem dX1_isGone_15 : decode cX1_isGone 15 = .ok (.if_icmp .lt 7, 3) := by decide +kernel
theorem dX1_isGone_18 : decode cX1_isGone 18 = .ok (.iconst 1, 1) := by decide +kernel
theorem dX1_isGone_19 : decode cX1_isGone 19 = .ok (.goto 4, 3) := by decide +kernel
theorem dX1_isGone_22 : decode cX1_isGone 22 = .ok (.iconst 0, 1) := by decide +kernel
theorem dX1_isGone_23 : decode cX1_isGone 23 = .ok (.ireturn, 1) := by decide +kernel
theorem pd_X1_isGone : (parseMethodDescriptor yX1_isGone.desc).map (fun d => d.parameters.length) = some 2 := by decide +kernel
def w_X1_isGone (zz : Nat → Nat) (a0 : Nat) (a1 : Int) (a2 : Int) (h : AH) (Q : Int → AH → Prop) : Prop := okA h a0 1 ∧ w_X1_vanishes zz a0 a1 h (fun (r2 : Int) (h2 : AH) => jn (fun (t0_23 : Int) (h_23 : AH) => (t0_23 = 0 ∨ t0_23 = 1) ∧ Q t0_23 h_23) (fun k_23 : Int → AH → Prop => jn (fun  (h_22 : AH) => k_23 (0 : Int) h_22) (fun k_22 : AH → Prop => ((r2 = 0) → k_22  h2) ∧ ((¬ (r2 = 0)) → okA h2 a0 1 ∧ ∃ b10 : Nat, hfR h2 a0 3 = some b10 ∧ okI h2 b10 a1 ∧ ((a2 < (haI h2 b10 a1)) → k_22  h2) ∧ ((¬ (a2 < (haI h2 b10 a1))) → k_23 (1 : Int) h2)))))
set_option maxRecDepth 100000 in
set_option maxHeartbeats 4000000 in
theorem met_X1_isGone (G : GG) (l : Launch) : ∀ (As : List Value) (a0 : Nat) (a1 : Int) (a2 : Int) (h : AH) (Q : Int → AH → Prop), As.map ab = List.map some ([vR a0, vI a1, vI a2] : List AV) → w_X1_isGone G.2.2 a0 a1 a2 h Q → Met l yX1_isGone (.code yX1_isGone cX1_isGone 3 (some .boolean) :: xTb) ({ frames := 1, cells := 0, slots := 0, locals := 21 } : Room) (PcA G As h) (QG G (oI Q)) 0 0 (frA G) := by
  intro As a0 a1 a2 h Q hA hw
  refine met_of hA (by decide) (Nat.le_of_ble_eq_true rfl) (fun p e s m args below meth c C hml hr hnm => ?_)
  unfold w_X1_isGone at hw
  refine aw_aload_n (pc := 0) C dX1_isGone_0 rfl rfl ?_
  refine aw_iload_n (pc := 1) C dX1_isGone_1 rfl rfl ?_
  obtain ⟨hp9, hw⟩ := hw
  refine aw_callV (pc := 2) (as := [vI a1]) C ci1 (fun As hA => met_X1_vanishes G l As a0 a1 _ _ hA hw) tw427 tw429 (tbp 16 (n := 9) (by decide +kernel)) tw6 tw430 ⟨rfl, rfl⟩ ⟨rfl, by decide, by decide, pd_X1_vanishes⟩ ⟨Nat.le_of_ble_eq_true rfl, Nat.le_of_ble_eq_true rfl⟩ ⟨Nat.zero_le _, Nat.zero_le _⟩ (Nat.le_of_ble_eq_true rfl) dX1_isGone_2 rfl hp9 (fun v9 h2 hq9 => ?_)
  obtain ⟨r2, rfl, hw⟩ := hq9
  obtain ⟨k_23, hk_23, hw⟩ := jn_out hw
  have J_23 : ∀ (t0_23 : Int) (h_23 : AH), k_23 t0_23 h_23 → AW G p l e ({ frames := 1, cells := 0, slots := 0, locals := 21 } : Room) s m args below meth c 0 0 (MQ below (QG G (oI Q)) args s 0 0 (frA G)) 23 (eOf []) [vI t0_23] h_23 := by
    intro t0_23 h_23 hw
    rw [hk_23] at hw
    obtain ⟨hp9, hw⟩ := hw
    exact aw_zret (pc := 23) C hr dX1_isGone_23 ⟨Nat.le_of_ble_eq_true rfl, Nat.le_of_ble_eq_true rfl⟩ hp9 ⟨_, rfl, hw⟩
  obtain ⟨k_22, hk_22, hw⟩ := jn_out hw
  have J_22 : ∀  (h_22 : AH), k_22  h_22 → AW G p l e ({ frames := 1, cells := 0, slots := 0, locals := 21 } : Room) s m args below meth c 0 0 (MQ below (QG G (oI Q)) args s 0 0 (frA G)) 22 (eOf []) [] h_22 := by
    intro  h_22 hw
    rw [hk_22] at hw
    refine aw_iconst (pc := 22) C dX1_isGone_22 (i := (0 : Int)) (by decide) ?_
    refine aw_sub [] trivial ?_
    exact J_23 _ _ hw
  refine aw_if_eq (pc := 5) (tgt := 22) C dX1_isGone_5 (by decide) (fun hc9 => ?_) (fun hc9 => ?_)
  · have hw := hw.1 hc9
    refine aw_sub [] trivial ?_
    exact J_22  _ hw
  · have hw := hw.2 hc9
    refine aw_iload_n (pc := 8) C dX1_isGone_8 rfl rfl ?_
    refine aw_aload_n (pc := 9) C dX1_isGone_9 rfl rfl ?_
    obtain ⟨hp9, b10, hb9, hw⟩ := hw
    refine aw_getR (pc := 10) C (ci := 1) (k := 3) ci1 (by decide) tw173 dX1_isGone_10 rfl hp9 hb9 ?_
    refine aw_iload_n (pc := 13) C dX1_isGone_13 rfl rfl ?_
    obtain ⟨⟨k9, hp9⟩, hw⟩ := hw
    refine aw_iald (pc := 14) C dX1_isGone_14 hp9 ?_
    refine aw_icmp_lt (pc := 15) (tgt := 22) C dX1_isGone_15 (by decide) (fun hc9 => ?_) (fun hc9 => ?_)
    · have hw := hw.1 hc9
      refine aw_sub [] trivial ?_
      exact J_22  _ hw
    · have hw := hw.2 hc9
      refine aw_iconst (pc := 18) C dX1_isGone_18 (i := (1 : Int)) (by decide) ?_
      refine aw_goto (pc := 19) (tgt := 23) C dX1_isGone_19 (by decide) ?_
      refine aw_sub [] trivial ?_
      exact J_23 _ _ hw
theorem dX1_movedBy_0 : decode cX1_movedBy 0 = .ok (.iconst 0, 1) := by decide +kernel
theorem dX1_movedBy_1 : decode cX1_movedBy 1 = .ok (.iload_n 1, 1) := by decide +kernel
theorem dX1_movedBy_2 : decode cX1_movedBy 2 = .ok (.aload_n 0, 1) := by decide +kernel
theorem dX1_movedBy_3 : decode cX1_movedBy 3 = .ok (.getfield 27, 3) := by decide +kernel
theorem dX1_movedBy_6 : decode cX1_movedBy 6 = .ok (.isub, 1) := by decide +kernel
theorem dX1_movedBy_7 : decode cX1_movedBy 7 = .ok (.aload_n 0, 1) := by decide +kernel
theorem dX1_movedBy_8 : decode cX1_movedBy 8 = .ok (.getfield 49, 3) := by decide +kernel
theorem dX1_movedBy_11 : decode cX1_movedBy 11 = .ok (.getfield 77, 3) := by decide +kernel
theorem dX1_movedBy_14 : decode cX1_movedBy 14 = .ok (.invokestatic 162, 3) := by decide +kernel
theorem dX1_movedBy_17 : decode cX1_movedBy 17 = .ok (.invokestatic 165, 3) := by decide +kernel
theorem dX1_movedBy_20 : decode cX1_movedBy 20 = .ok (.ireturn, 1) := by decide +kernel
theorem pd_X1_movedBy : (parseMethodDescriptor yX1_movedBy.desc).map (fun d => d.parameters.length) = some 1 := by decide +kernel
def w_X1_movedBy (zz : Nat → Nat) (a0 : Nat) (a1 : Int) (h : AH) (Q : Int → AH → Prop) : Prop := okA h a0 1 ∧ inR (a1 - (hfI h a0 8)) ∧ okA h a0 1 ∧ ∃ b8 : Nat, hfR h a0 1 = some b8 ∧ okA h b8 2 ∧ Q (if (0 : Int) < (if (hfI h b8 3) < (a1 - (hfI h a0 8)) then (hfI h b8 3) else (a1 - (hfI h a0 8))) then (if (hfI h b8 3) < (a1 - (hfI h a0 8)) then (hfI h b8 3) else (a1 - (hfI h a0 8))) else (0 : Int)) h
set_option maxRecDepth 100000 in
set_option maxHeartbeats 4000000 in
theorem met_X1_movedBy (G : GG) (l : Launch) : ∀ (As : List Value) (a0 : Nat) (a1 : Int) (h : AH) (Q : Int → AH → Prop), As.map ab = List.map some ([vR a0, vI a1] : List AV) → w_X1_movedBy G.2.2 a0 a1 h Q → Met l yX1_movedBy (.code yX1_movedBy cX1_movedBy 2 (some .int) :: xTb) ({ frames := 1, cells := 0, slots := 0, locals := 21 } : Room) (PcA G As h) (QG G (oI Q)) 0 0 (frA G) := by
  intro As a0 a1 h Q hA hw
  refine met_of hA (by decide) (Nat.le_of_ble_eq_true rfl) (fun p e s m args below meth c C hml hr hnm => ?_)
  unfold w_X1_movedBy at hw
  refine aw_iconst (pc := 0) C dX1_movedBy_0 (i := (0 : Int)) (by decide) ?_
  refine aw_iload_n (pc := 1) C dX1_movedBy_1 rfl rfl ?_
  refine aw_aload_n (pc := 2) C dX1_movedBy_2 rfl rfl ?_
  obtain ⟨hp9, hw⟩ := hw
  refine aw_getI (pc := 3) C (ci := 1) (k := 8) ci1 (by decide) tw178 dX1_movedBy_3 rfl hp9 ?_
  obtain ⟨hp9, hw⟩ := hw
  refine aw_isub (pc := 6) C dX1_movedBy_6 hp9 ?_
  refine aw_aload_n (pc := 7) C dX1_movedBy_7 rfl rfl ?_
  obtain ⟨hp9, b8, hb9, hw⟩ := hw
  refine aw_getR (pc := 8) C (ci := 1) (k := 1) ci1 (by decide) tw171 dX1_movedBy_8 rfl hp9 hb9 ?_
  obtain ⟨hp9, hw⟩ := hw
  refine aw_getI (pc := 11) C (ci := 2) (k := 3) ci2 (by decide) tw131 dX1_movedBy_11 rfl hp9 ?_
  refine aw_mmin (pc := 14) C tw527 tw528 tw10 tw529 ⟨Nat.le_of_ble_eq_true rfl, Nat.le_of_ble_eq_true rfl, Nat.zero_le _, Nat.zero_le _⟩ (Nat.le_of_ble_eq_true rfl) dX1_movedBy_14 ?_
  refine aw_mmax (pc := 17) C tw530 tw349 tw10 tw350 ⟨Nat.le_of_ble_eq_true rfl, Nat.le_of_ble_eq_true rfl, Nat.zero_le _, Nat.zero_le _⟩ (Nat.le_of_ble_eq_true rfl) dX1_movedBy_17 ?_
  exact aw_iret (pc := 20) C hr dX1_movedBy_20 ⟨Nat.le_of_ble_eq_true rfl, Nat.le_of_ble_eq_true rfl⟩ ⟨_, rfl, hw⟩
theorem dX1_cellOf_0 : decode cX1_cellOf 0 = .ok (.aload_n 0, 1) := by decide +kernel
theorem dX1_cellOf_1 : decode cX1_cellOf 1 = .ok (.iload_n 1, 1) := by decide +kernel
theorem dX1_cellOf_2 : decode cX1_cellOf 2 = .ok (.iload_n 2, 1) := by decide +kernel
theorem dX1_cellOf_3 : decode cX1_cellOf 3 = .ok (.invokevirtual 128, 3) := by decide +kernel
theorem dX1_cellOf_6 : decode cX1_cellOf 6 = .ok (.ifCond .eq 7, 3) := by decide +kernel
theorem dX1_cellOf_9 : decode cX1_cellOf 9 = .ok (.iconst (-1), 1) := by decide +kernel
theorem dX1_cellOf_10 : decode cX1_cellOf 10 = .ok (.goto 16, 3) := by decide +kernel
theorem dX1_cellOf_13 : decode cX1_cellOf 13 = .ok (.aload_n 0, 1) := by decide +kernel
theorem dX1_cellOf_14 : decode cX1_cellOf 14 = .ok (.getfield 49, 3) := by decide +kernel
theorem dX1_cellOf_17 : decode cX1_cellOf 17 = .ok (.aload_n 0, 1) := by decide +kernel
theorem dX1_cellOf_18 : decode cX1_cellOf 18 = .ok (.iload_n 2, 1) := by decide +kernel
theorem dX1_cellOf_19 : decode cX1_cellOf 19 = .ok (.invokevirtual 132, 3) := by decide +kernel
theorem dX1_cellOf_22 : decode cX1_cellOf 22 = .ok (.iload_n 1, 1) := by decide +kernel
theorem dX1_cellOf_23 : decode cX1_cellOf 23 = .ok (.invokevirtual 135, 3) := by decide +kernel
theorem dX1_cellOf_26 : decode cX1_cellOf 26 = .ok (.ireturn, 1) := by decide +kernel
theorem pd_X1_cellOf : (parseMethodDescriptor yX1_cellOf.desc).map (fun d => d.parameters.length) = some 2 := by decide +kernel
def w_X1_cellOf (zz : Nat → Nat) (a0 : Nat) (a1 : Int) (a2 : Int) (h : AH) (Q : Int → AH → Prop) : Prop := okA h a0 1 ∧ w_X1_isGone zz a0 a1 a2 h (fun (r3 : Int) (h3 : AH) => jn (fun (t0_26 : Int) (h_26 : AH) => Q t0_26 h_26) (fun k_26 : Int → AH → Prop => ((r3 = 0) → okA h3 a0 1 ∧ ∃ b14 : Nat, hfR h3 a0 1 = some b14 ∧ okA h3 a0 1 ∧ w_X1_movedBy zz a0 a2 h3 (fun (r19 : Int) (h19 : AH) => okA h19 b14 2 ∧ w_X2_cellAfter zz b14 r19 a1 h19 (fun (r23 : Int) (h23 : AH) => k_26 r23 h23))) ∧ ((¬ (r3 = 0)) → k_26 (-1 : Int) h3)))
set_option maxRecDepth 100000 in
set_option maxHeartbeats 4000000 in
theorem met_X1_cellOf (G : GG) (l : Launch) : ∀ (As : List Value) (a0 : Nat) (a1 : Int) (a2 : Int) (h : AH) (Q : Int → AH → Prop), As.map ab = List.map some ([vR a0, vI a1, vI a2] : List AV) → w_X1_cellOf G.2.2 a0 a1 a2 h Q → Met l yX1_cellOf (.code yX1_cellOf cX1_cellOf 3 (some .int) :: xTb) ({ frames := 2, cells := 0, slots := 0, locals := 43 } : Room) (PcA G As h) (QG G (oI Q)) 0 0 (frA G) := by
  intro As a0 a1 a2 h Q hA hw
  refine met_of hA (by decide) (Nat.le_of_ble_eq_true rfl) (fun p e s m args below meth c C hml hr hnm => ?_)
  unfold w_X1_cellOf at hw
  refine aw_aload_n (pc := 0) C dX1_cellOf_0 rfl rfl ?_
  refine aw_iload_n (pc := 1) C dX1_cellOf_1 rfl rfl ?_
  refine aw_iload_n (pc := 2) C dX1_cellOf_2 rfl rfl ?_
  obtain ⟨hp9, hw⟩ := hw
  refine aw_callV (pc := 3) (as := [vI a1, vI a2]) C ci1 (fun As hA => met_X1_isGone G l As a0 a1 a2 _ _ hA hw) tw519 tw521 (tbp 21 (n := 9) (by decide +kernel)) tw6 tw522 ⟨rfl, rfl⟩ ⟨rfl, by decide, by decide, pd_X1_isGone⟩ ⟨Nat.le_of_ble_eq_true rfl, Nat.le_of_ble_eq_true rfl⟩ ⟨Nat.zero_le _, Nat.zero_le _⟩ (Nat.le_of_ble_eq_true rfl) dX1_cellOf_3 rfl hp9 (fun v9 h3 hq9 => ?_)
  obtain ⟨r3, rfl, hw⟩ := hq9
  obtain ⟨k_26, hk_26, hw⟩ := jn_out hw
  have J_26 : ∀ (t0_26 : Int) (h_26 : AH), k_26 t0_26 h_26 → AW G p l e ({ frames := 2, cells := 0, slots := 0, locals := 43 } : Room) s m args below meth c 0 0 (MQ below (QG G (oI Q)) args s 0 0 (frA G)) 26 (eOf []) [vI t0_26] h_26 := by
    intro t0_26 h_26 hw
    rw [hk_26] at hw
    exact aw_iret (pc := 26) C hr dX1_cellOf_26 ⟨Nat.le_of_ble_eq_true rfl, Nat.le_of_ble_eq_true rfl⟩ ⟨_, rfl, hw⟩
  refine aw_if_eq (pc := 6) (tgt := 13) C dX1_cellOf_6 (by decide) (fun hc9 => ?_) (fun hc9 => ?_)
  · have hw := hw.1 hc9
    refine aw_aload_n (pc := 13) C dX1_cellOf_13 rfl rfl ?_
    obtain ⟨hp9, b14, hb9, hw⟩ := hw
    refine aw_getR (pc := 14) C (ci := 1) (k := 1) ci1 (by decide) tw171 dX1_cellOf_14 rfl hp9 hb9 ?_
    refine aw_aload_n (pc := 17) C dX1_cellOf_17 rfl rfl ?_
    refine aw_iload_n (pc := 18) C dX1_cellOf_18 rfl rfl ?_
    obtain ⟨hp9, hw⟩ := hw
    refine aw_callV (pc := 19) (as := [vI a2]) C ci1 (fun As hA => met_X1_movedBy G l As a0 a2 _ _ hA hw) tw523 tw525 (tbp 22 (n := 9) (by decide +kernel)) tw6 tw526 ⟨rfl, rfl⟩ ⟨rfl, by decide, by decide, pd_X1_movedBy⟩ ⟨Nat.le_of_ble_eq_true rfl, Nat.le_of_ble_eq_true rfl⟩ ⟨Nat.zero_le _, Nat.zero_le _⟩ (Nat.le_of_ble_eq_true rfl) dX1_cellOf_19 rfl hp9 (fun v9 h19 hq9 => ?_)
    obtain ⟨r19, rfl, hw⟩ := hq9
    refine aw_iload_n (pc := 22) C dX1_cellOf_22 rfl rfl ?_
    obtain ⟨hp9, hw⟩ := hw
    refine aw_callV (pc := 23) (as := [vI r19, vI a1]) C ci2 (fun As hA => met_X2_cellAfter G l As b14 r19 a1 _ _ hA hw) tw531 tw532 tw533 tw8 tw534 ⟨rfl, rfl⟩ ⟨rfl, by decide, by decide, pd_X2_cellAfter⟩ ⟨Nat.le_of_ble_eq_true rfl, Nat.le_of_ble_eq_true rfl⟩ ⟨Nat.zero_le _, Nat.zero_le _⟩ (Nat.le_of_ble_eq_true rfl) dX1_cellOf_23 rfl hp9 (fun v9 h23 hq9 => ?_)
    obtain ⟨r23, rfl, hw⟩ := hq9
    refine aw_sub [] trivial ?_
    exact J_26 _ _ hw
  · have hw := hw.2 hc9
    refine aw_iconst (pc := 9) C dX1_cellOf_9 (i := (-1 : Int)) (by decide) ?_
    refine aw_goto (pc := 10) (tgt := 26) C dX1_cellOf_10 (by decide) ?_
    refine aw_sub [] trivial ?_
    exact J_26 _ _ hw
theorem dX1_pieceCode_0 : decode cX1_pieceCode 0 = .ok (.aload_n 0, 1) := by decide +kernel
theorem dX1_pieceCode_1 : decode cX1_pieceCode 1 = .ok (.iload_n 2, 1) := by decide +kernel
theorem dX1_pieceCode_2 : decode cX1_pieceCode 2 = .ok (.invokevirtual 132, 3) := by decide +kernel
theorem dX1_pieceCode_5 : decode cX1_pieceCode 5 = .ok (.istore_n 3, 1) := by decide +kernel
theorem dX1_pieceCode_6 : decode cX1_pieceCode 6 = .ok (.aload_n 0, 1) := by decide +kernel
theorem dX1_pieceCode_7 : decode cX1_pieceCode 7 = .ok (.getfield 40, 3) := by decide +kernel
theorem dX1_pieceCode_10 : decode cX1_pieceCode 10 = .ok (.getfield 74, 3) := by decide +kernel
theorem dX1_pieceCode_13 : decode cX1_pieceCode 13 = .ok (.iload_n 1, 1) := by decide +kernel
theorem dX1_pieceCode_14 : decode cX1_pieceCode 14 = .ok (.iaload, 1) := by decide +kernel
theorem dX1_pieceCode_15 : decode cX1_pieceCode 15 = .ok (.iconst 3, 1) := by decide +kernel
theorem dX1_pieceCode_16 : decode cX1_pieceCode 16 = .ok (.if_icmp .ne 40, 3) := by decide +kernel
theorem dX1_pieceCode_19 : decode cX1_pieceCode 19 = .ok (.iload_n 3, 1) := by decide +kernel
theorem dX1_pieceCode_20 : decode cX1_pieceCode 20 = .ok (.ifCond .le 36, 3) := by decide +kernel
theorem dX1_pieceCode_23 : decode cX1_pieceCode 23 = .ok (.aload_n 0, 1) := by decide +kernel
theorem dX1_pieceCode_24 : decode cX1_pieceCode 24 = .ok (.getfield 49, 3) := by decide +kernel
theorem dX1_pieceCode_27 : decode cX1_pieceCode 27 = .ok (.iload_n 3, 1) := by decide +kernel
theorem dX1_pieceCode_28 : decode cX1_pieceCode 28 = .ok (.iload_n 1, 1) := by decide +kernel
theorem dX1_pieceCode_29 : decode cX1_pieceCode 29 = .ok (.invokevirtual 168, 3) := by decide +kernel
theorem dX1_pieceCode_32 : decode cX1_pieceCode 32 = .ok (.ifCond .eq 24, 3) := by decide +kernel
theorem dX1_pieceCode_35 : decode cX1_pieceCode 35 = .ok (.aload_n 0, 1) := by decide +kernel
theorem dX1_pieceCode_36 : decode cX1_pieceCode 36 = .ok (.getfield 31, 3) := by decide +kernel
theorem dX1_pieceCode_39 : decode cX1_pieceCode 39 = .ok (.iconst 1, 1) := by decide +kernel
theorem dX1_pieceCode_40 : decode cX1_pieceCode 40 = .ok (.invokevirtual 65, 3) := by decide +kernel
theorem dX1_pieceCode_43 : decode cX1_pieceCode 43 = .ok (.aload_n 0, 1) := by decide +kernel
theorem dX1_pieceCode_44 : decode cX1_pieceCode 44 = .ok (.getfield 40, 3) := by decide +kernel
theorem dX1_pieceCode_47 : decode cX1_pieceCode 47 = .ok (.getfield 95, 3) := by decide +kernel
theorem dX1_pieceCode_50 : decode cX1_pieceCode 50 = .ok (.iload_n 1, 1) := by decide +kernel
theorem dX1_pieceCode_51 : decode cX1_pieceCode 51 = .ok (.iaload, 1) := by decide +kernel
theorem dX1_pieceCode_52 : decode cX1_pieceCode 52 = .ok (.invokevirtual 108, 3) := by decide +kernel
theorem dX1_pieceCode_55 : decode cX1_pieceCode 55 = .ok (.ireturn, 1) := by decide +kernel
theorem dX1_pieceCode_56 : decode cX1_pieceCode 56 = .ok (.aload_n 0, 1) := by decide +kernel
theorem dX1_pieceCode_57 : decode cX1_pieceCode 57 = .ok (.getfield 31, 3) := by decide +kernel
theorem dX1_pieceCode_60 : decode cX1_pieceCode 60 = .ok (.iconst 0, 1) := by decide +kernel
theorem dX1_pieceCode_61 : decode cX1_pieceCode 61 = .ok (.invokevirtual 65, 3) := by decide +kernel
theorem dX1_pieceCode_64 : decode cX1_pieceCode 64 = .ok (.iload_n 1, 1) := by decide +kernel
theorem dX1_pieceCode_65 : decode cX1_pieceCode 65 = .ok (.invokevirtual 108, 3) := by decide +kernel
theorem dX1_pieceCode_68 : decode cX1_pieceCode 68 = .ok (.ireturn, 1) := by decide +kernel
theorem pd_X1_pieceCode : (parseMethodDescriptor yX1_pieceCode.desc).map (fun d => d.parameters.length) = some 2 := by decide +kernel
def w_X1_pieceCode (zz : Nat → Nat) (a0 : Nat) (a1 : Int) (a2 : Int) (h : AH) (Q : Int → AH → Prop) : Prop := okA h a0 1 ∧ w_X1_movedBy zz a0 a2 h (fun (r2 : Int) (h2 : AH) => okA h2 a0 1 ∧ ∃ b7 : Nat, hfR h2 a0 0 = some b7 ∧ okA h2 b7 3 ∧ ∃ b10 : Nat, hfR h2 b7 2 = some b10 ∧ okI h2 b10 a1 ∧ jn (fun  (h_56 : AH) => okA h_56 a0 1 ∧ ∃ b57 : Nat, hfR h_56 a0 2 = some b57 ∧ okA h_56 b57 4 ∧ w_X4_text zz b57 (0 : Int) h_56 (fun (r61 : Nat) (h61 : AH) => okA h61 r61 5 ∧ w_X5_codeOf zz r61 a1 h61 (fun (r65 : Int) (h65 : AH) => Q r65 h65))) (fun k_56 : AH → Prop => ((¬ (haI h2 b10 a1) = (3 : Int)) → k_56  h2) ∧ (((haI h2 b10 a1) = (3 : Int)) → ((r2 ≤ 0) → k_56  h2) ∧ ((¬ (r2 ≤ 0)) → okA h2 a0 1 ∧ ∃ b24 : Nat, hfR h2 a0 1 = some b24 ∧ okA h2 b24 2 ∧ w_X2_isAtGoalAfter zz b24 r2 a1 h2 (fun (r29 : Int) (h29 : AH) => ((r29 = 0) → k_56  h29) ∧ ((¬ (r29 = 0)) → okA h29 a0 1 ∧ ∃ b36 : Nat, hfR h29 a0 2 = some b36 ∧ okA h29 b36 4 ∧ w_X4_text zz b36 (1 : Int) h29 (fun (r40 : Nat) (h40 : AH) => okA h40 a0 1 ∧ ∃ b44 : Nat, hfR h40 a0 0 = some b44 ∧ okA h40 b44 3 ∧ ∃ b47 : Nat, hfR h40 b44 0 = some b47 ∧ okI h40 b47 a1 ∧ okA h40 r40 5 ∧ w_X5_codeOf zz r40 (haI h40 b47 a1) h40 (fun (r52 : Int) (h52 : AH) => Q r52 h52))))))))
set_option maxRecDepth 100000 in
set_option maxHeartbeats 4000000 in
theorem met_X1_pieceCode (G : GG) (l : Launch) : ∀ (As : List Value) (a0 : Nat) (a1 : Int) (a2 : Int) (h : AH) (Q : Int → AH → Prop), As.map ab = List.map some ([vR a0, vI a1, vI a2] : List AV) → w_X1_pieceCode G.2.2 a0 a1 a2 h Q → Met l yX1_pieceCode (.code yX1_pieceCode cX1_pieceCode 4 (some .int) :: xTb) ({ frames := 2, cells := 0, slots := 0, locals := 44 } : Room) (PcA G As h) (QG G (oI Q)) 0 0 (frA G) := by
  intro As a0 a1 a2 h Q hA hw
  refine met_of hA (by decide) (Nat.le_of_ble_eq_true rfl) (fun p e s m args below meth c C hml hr hnm => ?_)
  unfold w_X1_pieceCode at hw
  refine aw_aload_n (pc := 0) C dX1_pieceCode_0 rfl rfl ?_
  refine aw_iload_n (pc := 1) C dX1_pieceCode_1 rfl rfl ?_
  obtain ⟨hp9, hw⟩ := hw
  refine aw_callV (pc := 2) (as := [vI a2]) C ci1 (fun As hA => met_X1_movedBy G l As a0 a2 _ _ hA hw) tw523 tw525 (tbp 22 (n := 9) (by decide +kernel)) tw6 tw526 ⟨rfl, rfl⟩ ⟨rfl, by decide, by decide, pd_X1_movedBy⟩ ⟨Nat.le_of_ble_eq_true rfl, Nat.le_of_ble_eq_true rfl⟩ ⟨Nat.zero_le _, Nat.zero_le _⟩ (Nat.le_of_ble_eq_true rfl) dX1_pieceCode_2 rfl hp9 (fun v9 h2 hq9 => ?_)
  obtain ⟨r2, rfl, hw⟩ := hq9
  refine aw_istore_n (pc := 5) C dX1_pieceCode_5 rfl (by rw [hml]; decide) ?_
  refine aw_aload_n (pc := 6) C dX1_pieceCode_6 rfl rfl ?_
  obtain ⟨hp9, b7, hb9, hw⟩ := hw
  refine aw_getR (pc := 7) C (ci := 1) (k := 0) ci1 (by decide) tw169 dX1_pieceCode_7 rfl hp9 hb9 ?_
  obtain ⟨hp9, b10, hb9, hw⟩ := hw
  refine aw_getR (pc := 10) C (ci := 3) (k := 2) ci3 (by decide) tw95 dX1_pieceCode_10 rfl hp9 hb9 ?_
  refine aw_iload_n (pc := 13) C dX1_pieceCode_13 rfl rfl ?_
  obtain ⟨⟨k9, hp9⟩, hw⟩ := hw
  refine aw_iald (pc := 14) C dX1_pieceCode_14 hp9 ?_
  refine aw_iconst (pc := 15) C dX1_pieceCode_15 (i := (3 : Int)) (by decide) ?_
  obtain ⟨k_56, hk_56, hw⟩ := jn_out hw
  have J_56 : ∀  (h_56 : AH), k_56  h_56 → AW G p l e ({ frames := 2, cells := 0, slots := 0, locals := 44 } : Room) s m args below meth c 0 0 (MQ below (QG G (oI Q)) args s 0 0 (frA G)) 56 (eOf [(0, vR a0), (1, vI a1)]) [] h_56 := by
    intro  h_56 hw
    rw [hk_56] at hw
    refine aw_aload_n (pc := 56) C dX1_pieceCode_56 rfl rfl ?_
    obtain ⟨hp9, b57, hb9, hw⟩ := hw
    refine aw_getR (pc := 57) C (ci := 1) (k := 2) ci1 (by decide) tw172 dX1_pieceCode_57 rfl hp9 hb9 ?_
    refine aw_iconst (pc := 60) C dX1_pieceCode_60 (i := (0 : Int)) (by decide) ?_
    obtain ⟨hp9, hw⟩ := hw
    refine aw_callV (pc := 61) (as := [vI (0 : Int)]) C ci4 (fun As hA => met_X4_text G l As b57 (0 : Int) _ _ hA hw) tw414 tw333 tw334 tw2 tw335 ⟨rfl, rfl⟩ ⟨rfl, by decide, by decide, pd_X4_text⟩ ⟨Nat.le_of_ble_eq_true rfl, Nat.le_of_ble_eq_true rfl⟩ ⟨Nat.zero_le _, Nat.zero_le _⟩ (Nat.le_of_ble_eq_true rfl) dX1_pieceCode_61 rfl hp9 (fun v9 h61 hq9 => ?_)
    obtain ⟨r61, rfl, hw⟩ := hq9
    refine aw_iload_n (pc := 64) C dX1_pieceCode_64 rfl rfl ?_
    obtain ⟨hp9, hw⟩ := hw
    refine aw_callV (pc := 65) (as := [vI a1]) C ci5 (fun As hA => met_X5_codeOf G l As r61 a1 _ _ hA hw) tw514 tw345 tw346 tw3 tw347 ⟨rfl, rfl⟩ ⟨rfl, by decide, by decide, pd_X5_codeOf⟩ ⟨Nat.le_of_ble_eq_true rfl, Nat.le_of_ble_eq_true rfl⟩ ⟨Nat.zero_le _, Nat.zero_le _⟩ (Nat.le_of_ble_eq_true rfl) dX1_pieceCode_65 rfl hp9 (fun v9 h65 hq9 => ?_)
    obtain ⟨r65, rfl, hw⟩ := hq9
    exact aw_iret (pc := 68) C hr dX1_pieceCode_68 ⟨Nat.le_of_ble_eq_true rfl, Nat.le_of_ble_eq_true rfl⟩ ⟨_, rfl, hw⟩
  refine aw_icmp_ne (pc := 16) (tgt := 56) C dX1_pieceCode_16 (by decide) (fun hc9 => ?_) (fun hc9 => ?_)
  · have hw := hw.1 hc9
    refine aw_sub [(0, vR a0), (1, vI a1)] ⟨rfl, rfl, trivial⟩ ?_
    exact J_56  _ hw
  · have hw := hw.2 hc9
    refine aw_iload_n (pc := 19) C dX1_pieceCode_19 rfl rfl ?_
    refine aw_if_le (pc := 20) (tgt := 56) C dX1_pieceCode_20 (by decide) (fun hc9 => ?_) (fun hc9 => ?_)
    · have hw := hw.1 hc9
      refine aw_sub [(0, vR a0), (1, vI a1)] ⟨rfl, rfl, trivial⟩ ?_
      exact J_56  _ hw
    · have hw := hw.2 hc9
      refine aw_aload_n (pc := 23) C dX1_pieceCode_23 rfl rfl ?_
      obtain ⟨hp9, b24, hb9, hw⟩ := hw
      refine aw_getR (pc := 24) C (ci := 1) (k := 1) ci1 (by decide) tw171 dX1_pieceCode_24 rfl hp9 hb9 ?_
      refine aw_iload_n (pc := 27) C dX1_pieceCode_27 rfl rfl ?_
      refine aw_iload_n (pc := 28) C dX1_pieceCode_28 rfl rfl ?_
      obtain ⟨hp9, hw⟩ := hw
      refine aw_callV (pc := 29) (as := [vI r2, vI a1]) C ci2 (fun As hA => met_X2_isAtGoalAfter G l As b24 r2 a1 _ _ hA hw) tw539 tw540 tw541 tw8 tw542 ⟨rfl, rfl⟩ ⟨rfl, by decide, by decide, pd_X2_isAtGoalAfter⟩ ⟨Nat.le_of_ble_eq_true rfl, Nat.le_of_ble_eq_true rfl⟩ ⟨Nat.zero_le _, Nat.zero_le _⟩ (Nat.le_of_ble_eq_true rfl) dX1_pieceCode_29 rfl hp9 (fun v9 h29 hq9 => ?_)
      obtain ⟨r29, rfl, hw⟩ := hq9
      refine aw_if_eq (pc := 32) (tgt := 56) C dX1_pieceCode_32 (by decide) (fun hc9 => ?_) (fun hc9 => ?_)
      · have hw := hw.1 hc9
        refine aw_sub [(0, vR a0), (1, vI a1)] ⟨rfl, rfl, trivial⟩ ?_
        exact J_56  _ hw
      · have hw := hw.2 hc9
        refine aw_aload_n (pc := 35) C dX1_pieceCode_35 rfl rfl ?_
        obtain ⟨hp9, b36, hb9, hw⟩ := hw
        refine aw_getR (pc := 36) C (ci := 1) (k := 2) ci1 (by decide) tw172 dX1_pieceCode_36 rfl hp9 hb9 ?_
        refine aw_iconst (pc := 39) C dX1_pieceCode_39 (i := (1 : Int)) (by decide) ?_
        obtain ⟨hp9, hw⟩ := hw
        refine aw_callV (pc := 40) (as := [vI (1 : Int)]) C ci4 (fun As hA => met_X4_text G l As b36 (1 : Int) _ _ hA hw) tw414 tw333 tw334 tw2 tw335 ⟨rfl, rfl⟩ ⟨rfl, by decide, by decide, pd_X4_text⟩ ⟨Nat.le_of_ble_eq_true rfl, Nat.le_of_ble_eq_true rfl⟩ ⟨Nat.zero_le _, Nat.zero_le _⟩ (Nat.le_of_ble_eq_true rfl) dX1_pieceCode_40 rfl hp9 (fun v9 h40 hq9 => ?_)
        obtain ⟨r40, rfl, hw⟩ := hq9
        refine aw_aload_n (pc := 43) C dX1_pieceCode_43 rfl rfl ?_
        obtain ⟨hp9, b44, hb9, hw⟩ := hw
        refine aw_getR (pc := 44) C (ci := 1) (k := 0) ci1 (by decide) tw169 dX1_pieceCode_44 rfl hp9 hb9 ?_
        obtain ⟨hp9, b47, hb9, hw⟩ := hw
        refine aw_getR (pc := 47) C (ci := 3) (k := 0) ci3 (by decide) tw90 dX1_pieceCode_47 rfl hp9 hb9 ?_
        refine aw_iload_n (pc := 50) C dX1_pieceCode_50 rfl rfl ?_
        obtain ⟨⟨k9, hp9⟩, hw⟩ := hw
        refine aw_iald (pc := 51) C dX1_pieceCode_51 hp9 ?_
        obtain ⟨hp9, hw⟩ := hw
        refine aw_callV (pc := 52) (as := [vI (haI h40 b47 a1)]) C ci5 (fun As hA => met_X5_codeOf G l As r40 (haI h40 b47 a1) _ _ hA hw) tw514 tw345 tw346 tw3 tw347 ⟨rfl, rfl⟩ ⟨rfl, by decide, by decide, pd_X5_codeOf⟩ ⟨Nat.le_of_ble_eq_true rfl, Nat.le_of_ble_eq_true rfl⟩ ⟨Nat.zero_le _, Nat.zero_le _⟩ (Nat.le_of_ble_eq_true rfl) dX1_pieceCode_52 rfl hp9 (fun v9 h52 hq9 => ?_)
        obtain ⟨r52, rfl, hw⟩ := hq9
        exact aw_iret (pc := 55) C hr dX1_pieceCode_55 ⟨Nat.le_of_ble_eq_true rfl, Nat.le_of_ble_eq_true rfl⟩ ⟨_, rfl, hw⟩
theorem dX1_show_0 : decode cX1_show 0 = .ok (.aload_n 2, 1) := by decide +kernel
theorem dX1_show_1 : decode cX1_show 1 = .ok (.bipush 32, 2) := by decide +kernel
theorem dX1_show_3 : decode cX1_show 3 = .ok (.invokestatic 171, 3) := by decide +kernel
theorem dX1_show_6 : decode cX1_show 6 = .ok (.iconst 0, 1) := by decide +kernel
theorem dX1_show_7 : decode cX1_show 7 = .ok (.istore_n 3, 1) := by decide +kernel
theorem dX1_show_8 : decode cX1_show 8 = .ok (.iload_n 3, 1) := by decide +kernel
theorem dX1_show_9 : decode cX1_show 9 = .ok (.aload_n 0, 1) := by decide +kernel
theorem dX1_show_10 : decode cX1_show 10 = .ok (.getfield 31, 3) := by decide +kernel
theorem dX1_show_13 : decode cX1_show 13 = .ok (.iconst 1, 1) := by decide +kernel
theorem dX1_show_14 : decode cX1_show 14 = .ok (.invokevirtual 65, 3) := by decide +kernel
theorem dX1_show_17 : decode cX1_show 17 = .ok (.getfield 69, 3) := by decide +kernel
theorem dX1_show_20 : decode cX1_show 20 = .ok (.if_icmp .ge 59, 3) := by decide +kernel
theorem dX1_show_23 : decode cX1_show 23 = .ok (.aload_n 0, 1) := by decide +kernel
theorem dX1_show_24 : decode cX1_show 24 = .ok (.getfield 40, 3) := by decide +kernel
theorem dX1_show_27 : decode cX1_show 27 = .ok (.getfield 80, 3) := by decide +kernel
theorem dX1_show_30 : decode cX1_show 30 = .ok (.iload_n 3, 1) := by decide +kernel
theorem dX1_show_31 : decode cX1_show 31 = .ok (.iaload, 1) := by decide +kernel
theorem dX1_show_32 : decode cX1_show 32 = .ok (.iconst 5, 1) := by decide +kernel
theorem dX1_show_33 : decode cX1_show 33 = .ok (.if_icmp .ne 40, 3) := by decide +kernel
theorem dX1_show_36 : decode cX1_show 36 = .ok (.iload_n 1, 1) := by decide +kernel
theorem dX1_show_37 : decode cX1_show 37 = .ok (.aload_n 0, 1) := by decide +kernel
theorem dX1_show_38 : decode cX1_show 38 = .ok (.getfield 15, 3) := by decide +kernel
theorem dX1_show_41 : decode cX1_show 41 = .ok (.iload_n 3, 1) := by decide +kernel
theorem dX1_show_42 : decode cX1_show 42 = .ok (.iaload, 1) := by decide +kernel
theorem dX1_show_43 : decode cX1_show 43 = .ok (.if_icmp .lt 30, 3) := by decide +kernel
theorem dX1_show_46 : decode cX1_show 46 = .ok (.aload_n 2, 1) := by decide +kernel
theorem dX1_show_47 : decode cX1_show 47 = .ok (.aload_n 0, 1) := by decide +kernel
theorem dX1_show_48 : decode cX1_show 48 = .ok (.getfield 31, 3) := by decide +kernel
theorem dX1_show_51 : decode cX1_show 51 = .ok (.iconst 1, 1) := by decide +kernel
theorem dX1_show_52 : decode cX1_show 52 = .ok (.invokevirtual 65, 3) := by decide +kernel
theorem dX1_show_55 : decode cX1_show 55 = .ok (.getfield 177, 3) := by decide +kernel
theorem dX1_show_58 : decode cX1_show 58 = .ok (.iload_n 3, 1) := by decide +kernel
theorem dX1_show_59 : decode cX1_show 59 = .ok (.iaload, 1) := by decide +kernel
theorem dX1_show_60 : decode cX1_show 60 = .ok (.aload_n 0, 1) := by decide +kernel
theorem dX1_show_61 : decode cX1_show 61 = .ok (.getfield 31, 3) := by decide +kernel
theorem dX1_show_64 : decode cX1_show 64 = .ok (.iconst 1, 1) := by decide +kernel
theorem dX1_show_65 : decode cX1_show 65 = .ok (.invokevirtual 65, 3) := by decide +kernel
theorem dX1_show_68 : decode cX1_show 68 = .ok (.iload_n 3, 1) := by decide +kernel
theorem dX1_show_69 : decode cX1_show 69 = .ok (.invokevirtual 108, 3) := by decide +kernel
theorem dX1_show_72 : decode cX1_show 72 = .ok (.iastore, 1) := by decide +kernel
theorem dX1_show_73 : decode cX1_show 73 = .ok (.iinc 3 1, 3) := by decide +kernel
theorem dX1_show_76 : decode cX1_show 76 = .ok (.goto (-68), 3) := by decide +kernel
theorem dX1_show_79 : decode cX1_show 79 = .ok (.aload_n 0, 1) := by decide +kernel
theorem dX1_show_80 : decode cX1_show 80 = .ok (.getfield 31, 3) := by decide +kernel
theorem dX1_show_83 : decode cX1_show 83 = .ok (.iconst 0, 1) := by decide +kernel
theorem dX1_show_84 : decode cX1_show 84 = .ok (.invokevirtual 65, 3) := by decide +kernel
theorem dX1_show_87 : decode cX1_show 87 = .ok (.getfield 69, 3) := by decide +kernel
theorem dX1_show_90 : decode cX1_show 90 = .ok (.iconst 1, 1) := by decide +kernel
theorem dX1_show_91 : decode cX1_show 91 = .ok (.isub, 1) := by decide +kernel
theorem dX1_show_92 : decode cX1_show 92 = .ok (.istore_n 3, 1) := by decide +kernel
theorem dX1_show_93 : decode cX1_show 93 = .ok (.iload_n 3, 1) := by decide +kernel
theorem dX1_show_94 : decode cX1_show 94 = .ok (.ifCond .lt 33, 3) := by decide +kernel
theorem dX1_show_97 : decode cX1_show 97 = .ok (.aload_n 0, 1) := by decide +kernel
theorem dX1_show_98 : decode cX1_show 98 = .ok (.iload_n 3, 1) := by decide +kernel
theorem dX1_show_99 : decode cX1_show 99 = .ok (.iload_n 1, 1) := by decide +kernel
theorem dX1_show_100 : decode cX1_show 100 = .ok (.invokevirtual 180, 3) := by decide +kernel
theorem dX1_show_103 : decode cX1_show 103 = .ok (.istore 4, 2) := by decide +kernel
theorem dX1_show_105 : decode cX1_show 105 = .ok (.iload 4, 2) := by decide +kernel
theorem dX1_show_107 : decode cX1_show 107 = .ok (.iconst (-1), 1) := by decide +kernel
theorem dX1_show_108 : decode cX1_show 108 = .ok (.if_icmp .eq 13, 3) := by decide +kernel
theorem dX1_show_111 : decode cX1_show 111 = .ok (.aload_n 2, 1) := by decide +kernel
theorem dX1_show_112 : decode cX1_show 112 = .ok (.iload 4, 2) := by decide +kernel
theorem dX1_show_114 : decode cX1_show 114 = .ok (.aload_n 0, 1) := by decide +kernel
theorem dX1_show_115 : decode cX1_show 115 = .ok (.iload_n 3, 1) := by decide +kernel
theorem dX1_show_116 : decode cX1_show 116 = .ok (.iload_n 1, 1) := by decide +kernel
theorem dX1_show_117 : decode cX1_show 117 = .ok (.invokevirtual 183, 3) := by decide +kernel
theorem dX1_show_120 : decode cX1_show 120 = .ok (.iastore, 1) := by decide +kernel
theorem dX1_show_121 : decode cX1_show 121 = .ok (.iinc 3 (-1), 3) := by decide +kernel
theorem dX1_show_124 : decode cX1_show 124 = .ok (.goto (-31), 3) := by decide +kernel
theorem dX1_show_127 : decode cX1_show 127 = .ok (.return_, 1) := by decide +kernel
theorem pd_X1_show : (parseMethodDescriptor yX1_show.desc).map (fun d => d.parameters.length) = some 2 := by decide +kernel
def w_X1_show (zz : Nat → Nat) (a0 : Nat) (a1 : Int) (a2 : Nat) (h : AH) (Q : AH → Prop) : Prop := w_J7_fill_53178 zz a2 (32 : Int) h (fun  (h3 : AH) => ∃ I_8 : Nat → Int → AH → Prop, (∃ n, I_8 n (0 : Int) h3) ∧ ∀ (n_8 : Nat) (x3_8 : Int) (h_8 : AH), I_8 n_8 x3_8 h_8 → (okA h_8 a0 1 ∧ ∃ b10 : Nat, hfR h_8 a0 2 = some b10 ∧ okA h_8 b10 4 ∧ w_X4_text zz b10 (1 : Int) h_8 (fun (r14 : Nat) (h14 : AH) => okA h14 r14 5 ∧ (((hfI h14 r14 2) ≤ x3_8) → okA h14 a0 1 ∧ ∃ b80 : Nat, hfR h14 a0 2 = some b80 ∧ okA h14 b80 4 ∧ w_X4_text zz b80 (0 : Int) h14 (fun (r84 : Nat) (h84 : AH) => okA h84 r84 5 ∧ inR ((hfI h84 r84 2) - (1 : Int)) ∧ ∀ x3_92 : Int, x3_92 = ((hfI h84 r84 2) - (1 : Int)) → ∃ I_93 : Nat → Int → AH → Prop, (∃ n, I_93 n x3_92 h84) ∧ ∀ (n_93 : Nat) (x3_93 : Int) (h_93 : AH), I_93 n_93 x3_93 h_93 → (((x3_93 < 0) → Q h_93) ∧ ((¬ (x3_93 < 0)) → okA h_93 a0 1 ∧ w_X1_cellOf zz a0 x3_93 a1 h_93 (fun (r100 : Int) (h100 : AH) => jn (fun  (h_121 : AH) => inR (x3_93 + (-1)) ∧ ∀ x3_121 : Int, x3_121 = (x3_93 + (-1)) → ∃ m, m < n_93 ∧ I_93 m x3_121 h_121) (fun k_121 : AH → Prop => ((r100 = (-1 : Int)) → k_121  h100) ∧ ((¬ (r100 = (-1 : Int))) → okA h100 a0 1 ∧ w_X1_pieceCode zz a0 x3_93 a1 h100 (fun (r117 : Int) (h117 : AH) => okW h117 a2 r100 ∧ ∀ h120 : AH, h120 = saI h117 a2 (u1 (haI h117 a2) r100 r117) → k_121  h120)))))))) ∧ ((¬ ((hfI h14 r14 2) ≤ x3_8)) → okA h14 a0 1 ∧ ∃ b24 : Nat, hfR h14 a0 0 = some b24 ∧ okA h14 b24 3 ∧ ∃ b27 : Nat, hfR h14 b24 3 = some b27 ∧ okI h14 b27 x3_8 ∧ jn (fun  (h_73 : AH) => inR (x3_8 + 1) ∧ ∀ x3_73 : Int, x3_73 = (x3_8 + 1) → ∃ m, m < n_8 ∧ I_8 m x3_73 h_73) (fun k_73 : AH → Prop => ((¬ (haI h14 b27 x3_8) = (5 : Int)) → k_73  h14) ∧ (((haI h14 b27 x3_8) = (5 : Int)) → okA h14 a0 1 ∧ ∃ b38 : Nat, hfR h14 a0 4 = some b38 ∧ okI h14 b38 x3_8 ∧ ((a1 < (haI h14 b38 x3_8)) → k_73  h14) ∧ ((¬ (a1 < (haI h14 b38 x3_8))) → okA h14 a0 1 ∧ ∃ b48 : Nat, hfR h14 a0 2 = some b48 ∧ okA h14 b48 4 ∧ w_X4_text zz b48 (1 : Int) h14 (fun (r52 : Nat) (h52 : AH) => okA h52 r52 5 ∧ ∃ b55 : Nat, hfR h52 r52 1 = some b55 ∧ okI h52 b55 x3_8 ∧ okA h52 a0 1 ∧ ∃ b61 : Nat, hfR h52 a0 2 = some b61 ∧ okA h52 b61 4 ∧ w_X4_text zz b61 (1 : Int) h52 (fun (r65 : Nat) (h65 : AH) => okA h65 r65 5 ∧ w_X5_codeOf zz r65 x3_8 h65 (fun (r69 : Int) (h69 : AH) => okW h69 a2 (haI h52 b55 x3_8) ∧ ∀ h72 : AH, h72 = saI h69 a2 (u1 (haI h69 a2) (haI h52 b55 x3_8) r69) → k_73  h72))))))))))
set_option maxRecDepth 100000 in
set_option maxHeartbeats 4000000 in
theorem met_X1_show (G : GG) (l : Launch) : ∀ (As : List Value) (a0 : Nat) (a1 : Int) (a2 : Nat) (h : AH) (Q : AH → Prop), As.map ab = List.map some ([vR a0, vI a1, vR a2] : List AV) → w_X1_show G.2.2 a0 a1 a2 h Q → Met l yX1_show (.code yX1_show cX1_show 5 none :: xTb) ({ frames := 3, cells := 0, slots := 0, locals := 67 } : Room) (PcA G As h) (QG G (oV Q)) 0 0 (frA G) := by
  intro As a0 a1 a2 h Q hA hw
  refine met_of hA (by decide) (Nat.le_of_ble_eq_true rfl) (fun p e s m args below meth c C hml hr hnm => ?_)
  unfold w_X1_show at hw
  refine aw_aload_n (pc := 0) C dX1_show_0 rfl rfl ?_
  refine aw_bipush (pc := 1) C dX1_show_1 (i := (32 : Int)) (by decide) ?_
  refine aw_callS (pc := 3) (as := [vR a2, vI (32 : Int)]) C (fun As hA => met_J7_fill_53178 G l As a2 (32 : Int) _ _ hA hw) tw513 tw38 tw4 tw39 ⟨rfl, rfl⟩ ⟨by decide, by decide, pd_J7_fill_53178⟩ ⟨Nat.le_of_ble_eq_true rfl, Nat.le_of_ble_eq_true rfl⟩ ⟨Nat.zero_le _, Nat.zero_le _⟩ (Nat.le_of_ble_eq_true rfl) dX1_show_3 rfl (fun v9 h3 hq9 => ?_)
  obtain ⟨rfl, hw⟩ := hq9
  refine aw_iconst (pc := 6) C dX1_show_6 (i := (0 : Int)) (by decide) ?_
  refine aw_istore_n (pc := 7) C dX1_show_7 rfl (by rw [hml]; decide) ?_
  obtain ⟨I_8, ⟨n9, hi9⟩, hst9⟩ := hw
  have L_8 : ∀ (n_8 : Nat) (x3_8 : Int) (h_8 : AH), I_8 n_8 x3_8 h_8 → AW G p l e ({ frames := 3, cells := 0, slots := 0, locals := 67 } : Room) s m args below meth c 0 0 (MQ below (QG G (oV Q)) args s 0 0 (frA G)) 8 (eOf [(0, vR a0), (1, vI a1), (2, vR a2), (3, vI x3_8)]) [] h_8 := by
    intro n_8
    induction n_8 using Nat.strongRecOn with
    | _ n_8 ih_8 =>
    intro x3_8 h_8 hi9
    have hw := hst9 n_8 x3_8 h_8 hi9
    refine aw_iload_n (pc := 8) C dX1_show_8 rfl rfl ?_
    refine aw_aload_n (pc := 9) C dX1_show_9 rfl rfl ?_
    obtain ⟨hp9, b10, hb9, hw⟩ := hw
    refine aw_getR (pc := 10) C (ci := 1) (k := 2) ci1 (by decide) tw172 dX1_show_10 rfl hp9 hb9 ?_
    refine aw_iconst (pc := 13) C dX1_show_13 (i := (1 : Int)) (by decide) ?_
    obtain ⟨hp9, hw⟩ := hw
    refine aw_callV (pc := 14) (as := [vI (1 : Int)]) C ci4 (fun As hA => met_X4_text G l As b10 (1 : Int) _ _ hA hw) tw414 tw333 tw334 tw2 tw335 ⟨rfl, rfl⟩ ⟨rfl, by decide, by decide, pd_X4_text⟩ ⟨Nat.le_of_ble_eq_true rfl, Nat.le_of_ble_eq_true rfl⟩ ⟨Nat.zero_le _, Nat.zero_le _⟩ (Nat.le_of_ble_eq_true rfl) dX1_show_14 rfl hp9 (fun v9 h14 hq9 => ?_)
    obtain ⟨r14, rfl, hw⟩ := hq9
    obtain ⟨hp9, hw⟩ := hw
    refine aw_getI (pc := 17) C (ci := 5) (k := 2) ci5 (by decide) tw46 dX1_show_17 rfl hp9 ?_
    refine aw_icmp_ge (pc := 20) (tgt := 79) C dX1_show_20 (by decide) (fun hc9 => ?_) (fun hc9 => ?_)
    · have hw := hw.1 hc9
      refine aw_aload_n (pc := 79) C dX1_show_79 rfl rfl ?_
      obtain ⟨hp9, b80, hb9, hw⟩ := hw
      refine aw_getR (pc := 80) C (ci := 1) (k := 2) ci1 (by decide) tw172 dX1_show_80 rfl hp9 hb9 ?_
      refine aw_iconst (pc := 83) C dX1_show_83 (i := (0 : Int)) (by decide) ?_
      obtain ⟨hp9, hw⟩ := hw
      refine aw_callV (pc := 84) (as := [vI (0 : Int)]) C ci4 (fun As hA => met_X4_text G l As b80 (0 : Int) _ _ hA hw) tw414 tw333 tw334 tw2 tw335 ⟨rfl, rfl⟩ ⟨rfl, by decide, by decide, pd_X4_text⟩ ⟨Nat.le_of_ble_eq_true rfl, Nat.le_of_ble_eq_true rfl⟩ ⟨Nat.zero_le _, Nat.zero_le _⟩ (Nat.le_of_ble_eq_true rfl) dX1_show_84 rfl hp9 (fun v9 h84 hq9 => ?_)
      obtain ⟨r84, rfl, hw⟩ := hq9
      obtain ⟨hp9, hw⟩ := hw
      refine aw_getI (pc := 87) C (ci := 5) (k := 2) ci5 (by decide) tw46 dX1_show_87 rfl hp9 ?_
      refine aw_iconst (pc := 90) C dX1_show_90 (i := (1 : Int)) (by decide) ?_
      obtain ⟨hp9, hw⟩ := hw
      refine aw_isub (pc := 91) C dX1_show_91 hp9 ?_
      refine aw_nmI (fun x3_92 e9 => ?_)
      have hw := hw x3_92 e9
      refine aw_istore_n (pc := 92) C dX1_show_92 rfl (by rw [hml]; decide) ?_
      obtain ⟨I_93, ⟨n9, hi9⟩, hst9⟩ := hw
      have L_93 : ∀ (n_93 : Nat) (x3_93 : Int) (h_93 : AH), I_93 n_93 x3_93 h_93 → AW G p l e ({ frames := 3, cells := 0, slots := 0, locals := 67 } : Room) s m args below meth c 0 0 (MQ below (QG G (oV Q)) args s 0 0 (frA G)) 93 (eOf [(0, vR a0), (1, vI a1), (2, vR a2), (3, vI x3_93)]) [] h_93 := by
        intro n_93
        induction n_93 using Nat.strongRecOn with
        | _ n_93 ih_93 =>
        intro x3_93 h_93 hi9
        have hw := hst9 n_93 x3_93 h_93 hi9
        refine aw_iload_n (pc := 93) C dX1_show_93 rfl rfl ?_
        refine aw_if_lt (pc := 94) (tgt := 127) C dX1_show_94 (by decide) (fun hc9 => ?_) (fun hc9 => ?_)
        · have hw := hw.1 hc9
          exact aw_vret (pc := 127) C hr dX1_show_127 ⟨Nat.le_of_ble_eq_true rfl, Nat.le_of_ble_eq_true rfl⟩ ⟨rfl, hw⟩
        · have hw := hw.2 hc9
          refine aw_aload_n (pc := 97) C dX1_show_97 rfl rfl ?_
          refine aw_iload_n (pc := 98) C dX1_show_98 rfl rfl ?_
          refine aw_iload_n (pc := 99) C dX1_show_99 rfl rfl ?_
          obtain ⟨hp9, hw⟩ := hw
          refine aw_callV (pc := 100) (as := [vI x3_93, vI a1]) C ci1 (fun As hA => met_X1_cellOf G l As a0 x3_93 a1 _ _ hA hw) tw515 tw516 tw517 tw6 tw518 ⟨rfl, rfl⟩ ⟨rfl, by decide, by decide, pd_X1_cellOf⟩ ⟨Nat.le_of_ble_eq_true rfl, Nat.le_of_ble_eq_true rfl⟩ ⟨Nat.zero_le _, Nat.zero_le _⟩ (Nat.le_of_ble_eq_true rfl) dX1_show_100 rfl hp9 (fun v9 h100 hq9 => ?_)
          obtain ⟨r100, rfl, hw⟩ := hq9
          refine aw_istore (pc := 103) C dX1_show_103 (by rw [hml]; decide) ?_
          refine aw_iload (pc := 105) C dX1_show_105 rfl ?_
          refine aw_iconst (pc := 107) C dX1_show_107 (i := (-1 : Int)) (by decide) ?_
          obtain ⟨k_121, hk_121, hw⟩ := jn_out hw
          have J_121 : ∀  (h_121 : AH), k_121  h_121 → AW G p l e ({ frames := 3, cells := 0, slots := 0, locals := 67 } : Room) s m args below meth c 0 0 (MQ below (QG G (oV Q)) args s 0 0 (frA G)) 121 (eOf [(0, vR a0), (1, vI a1), (2, vR a2), (3, vI x3_93)]) [] h_121 := by
            intro  h_121 hw
            rw [hk_121] at hw
            obtain ⟨hp9, hw⟩ := hw
            refine aw_iincN (pc := 121) C dX1_show_121 (k := (-1)) (by decide) rfl (by rw [hml]; decide) hp9 (fun x3_121 e9 => ?_)
            have hw := hw x3_121 e9
            refine aw_goto (pc := 124) (tgt := 93) C dX1_show_124 (by decide) ?_
            obtain ⟨m9, hm9, hw⟩ := hw
            refine aw_sub [(0, vR a0), (1, vI a1), (2, vR a2), (3, vI x3_121)] ⟨rfl, rfl, rfl, rfl, trivial⟩ ?_
            exact ih_93 m9 hm9 _ _ hw
          refine aw_icmp_eq (pc := 108) (tgt := 121) C dX1_show_108 (by decide) (fun hc9 => ?_) (fun hc9 => ?_)
          · have hw := hw.1 hc9
            refine aw_sub [(0, vR a0), (1, vI a1), (2, vR a2), (3, vI x3_93)] ⟨rfl, rfl, rfl, rfl, trivial⟩ ?_
            exact J_121  _ hw
          · have hw := hw.2 hc9
            refine aw_aload_n (pc := 111) C dX1_show_111 rfl rfl ?_
            refine aw_iload (pc := 112) C dX1_show_112 rfl ?_
            refine aw_aload_n (pc := 114) C dX1_show_114 rfl rfl ?_
            refine aw_iload_n (pc := 115) C dX1_show_115 rfl rfl ?_
            refine aw_iload_n (pc := 116) C dX1_show_116 rfl rfl ?_
            obtain ⟨hp9, hw⟩ := hw
            refine aw_callV (pc := 117) (as := [vI x3_93, vI a1]) C ci1 (fun As hA => met_X1_pieceCode G l As a0 x3_93 a1 _ _ hA hw) tw535 tw537 (tbp 23 (n := 9) (by decide +kernel)) tw6 tw538 ⟨rfl, rfl⟩ ⟨rfl, by decide, by decide, pd_X1_pieceCode⟩ ⟨Nat.le_of_ble_eq_true rfl, Nat.le_of_ble_eq_true rfl⟩ ⟨Nat.zero_le _, Nat.zero_le _⟩ (Nat.le_of_ble_eq_true rfl) dX1_show_117 rfl hp9 (fun v9 h117 hq9 => ?_)
            obtain ⟨r117, rfl, hw⟩ := hq9
            obtain ⟨⟨k9, hp9⟩, hw⟩ := hw
            refine aw_iast (pc := 120) C dX1_show_120 hp9 (aw_nmH (fun h120 e9 => ?_))
            have hw := hw h120 e9
            refine aw_sub [(0, vR a0), (1, vI a1), (2, vR a2), (3, vI x3_93)] ⟨rfl, rfl, rfl, rfl, trivial⟩ ?_
            exact J_121  _ hw
      refine aw_sub [(0, vR a0), (1, vI a1), (2, vR a2), (3, vI x3_92)] ⟨rfl, rfl, rfl, rfl, trivial⟩ ?_
      exact L_93 n9 _ _ hi9
    · have hw := hw.2 hc9
      refine aw_aload_n (pc := 23) C dX1_show_23 rfl rfl ?_
      obtain ⟨hp9, b24, hb9, hw⟩ := hw
      refine aw_getR (pc := 24) C (ci := 1) (k := 0) ci1 (by decide) tw169 dX1_show_24 rfl hp9 hb9 ?_
      obtain ⟨hp9, b27, hb9, hw⟩ := hw
      refine aw_getR (pc := 27) C (ci := 3) (k := 3) ci3 (by decide) tw97 dX1_show_27 rfl hp9 hb9 ?_
      refine aw_iload_n (pc := 30) C dX1_show_30 rfl rfl ?_
      obtain ⟨⟨k9, hp9⟩, hw⟩ := hw
      refine aw_iald (pc := 31) C dX1_show_31 hp9 ?_
      refine aw_iconst (pc := 32) C dX1_show_32 (i := (5 : Int)) (by decide) ?_
      obtain ⟨k_73, hk_73, hw⟩ := jn_out hw
      have J_73 : ∀  (h_73 : AH), k_73  h_73 → AW G p l e ({ frames := 3, cells := 0, slots := 0, locals := 67 } : Room) s m args below meth c 0 0 (MQ below (QG G (oV Q)) args s 0 0 (frA G)) 73 (eOf [(0, vR a0), (1, vI a1), (2, vR a2), (3, vI x3_8)]) [] h_73 := by
        intro  h_73 hw
        rw [hk_73] at hw
        obtain ⟨hp9, hw⟩ := hw
        refine aw_iincN (pc := 73) C dX1_show_73 (k := 1) (by decide) rfl (by rw [hml]; decide) hp9 (fun x3_73 e9 => ?_)
        have hw := hw x3_73 e9
        refine aw_goto (pc := 76) (tgt := 8) C dX1_show_76 (by decide) ?_
        obtain ⟨m9, hm9, hw⟩ := hw
        refine aw_sub [(0, vR a0), (1, vI a1), (2, vR a2), (3, vI x3_73)] ⟨rfl, rfl, rfl, rfl, trivial⟩ ?_
        exact ih_8 m9 hm9 _ _ hw
      refine aw_icmp_ne (pc := 33) (tgt := 73) C dX1_show_33 (by decide) (fun hc9 => ?_) (fun hc9 => ?_)
      · have hw := hw.1 hc9
        refine aw_sub [(0, vR a0), (1, vI a1), (2, vR a2), (3, vI x3_8)] ⟨rfl, rfl, rfl, rfl, trivial⟩ ?_
        exact J_73  _ hw
      · have hw := hw.2 hc9
        refine aw_iload_n (pc := 36) C dX1_show_36 rfl rfl ?_
        refine aw_aload_n (pc := 37) C dX1_show_37 rfl rfl ?_
        obtain ⟨hp9, b38, hb9, hw⟩ := hw
        refine aw_getR (pc := 38) C (ci := 1) (k := 4) ci1 (by decide) tw174 dX1_show_38 rfl hp9 hb9 ?_
        refine aw_iload_n (pc := 41) C dX1_show_41 rfl rfl ?_
        obtain ⟨⟨k9, hp9⟩, hw⟩ := hw
        refine aw_iald (pc := 42) C dX1_show_42 hp9 ?_
        refine aw_icmp_lt (pc := 43) (tgt := 73) C dX1_show_43 (by decide) (fun hc9 => ?_) (fun hc9 => ?_)
        · have hw := hw.1 hc9
          refine aw_sub [(0, vR a0), (1, vI a1), (2, vR a2), (3, vI x3_8)] ⟨rfl, rfl, rfl, rfl, trivial⟩ ?_
          exact J_73  _ hw
        · have hw := hw.2 hc9
          refine aw_aload_n (pc := 46) C dX1_show_46 rfl rfl ?_
          refine aw_aload_n (pc := 47) C dX1_show_47 rfl rfl ?_
          obtain ⟨hp9, b48, hb9, hw⟩ := hw
          refine aw_getR (pc := 48) C (ci := 1) (k := 2) ci1 (by decide) tw172 dX1_show_48 rfl hp9 hb9 ?_
          refine aw_iconst (pc := 51) C dX1_show_51 (i := (1 : Int)) (by decide) ?_
          obtain ⟨hp9, hw⟩ := hw
          refine aw_callV (pc := 52) (as := [vI (1 : Int)]) C ci4 (fun As hA => met_X4_text G l As b48 (1 : Int) _ _ hA hw) tw414 tw333 tw334 tw2 tw335 ⟨rfl, rfl⟩ ⟨rfl, by decide, by decide, pd_X4_text⟩ ⟨Nat.le_of_ble_eq_true rfl, Nat.le_of_ble_eq_true rfl⟩ ⟨Nat.zero_le _, Nat.zero_le _⟩ (Nat.le_of_ble_eq_true rfl) dX1_show_52 rfl hp9 (fun v9 h52 hq9 => ?_)
          obtain ⟨r52, rfl, hw⟩ := hq9
          obtain ⟨hp9, b55, hb9, hw⟩ := hw
          refine aw_getR (pc := 55) C (ci := 5) (k := 1) ci5 (by decide) tw44 dX1_show_55 rfl hp9 hb9 ?_
          refine aw_iload_n (pc := 58) C dX1_show_58 rfl rfl ?_
          obtain ⟨⟨k9, hp9⟩, hw⟩ := hw
          refine aw_iald (pc := 59) C dX1_show_59 hp9 ?_
          refine aw_aload_n (pc := 60) C dX1_show_60 rfl rfl ?_
          obtain ⟨hp9, b61, hb9, hw⟩ := hw
          refine aw_getR (pc := 61) C (ci := 1) (k := 2) ci1 (by decide) tw172 dX1_show_61 rfl hp9 hb9 ?_
          refine aw_iconst (pc := 64) C dX1_show_64 (i := (1 : Int)) (by decide) ?_
          obtain ⟨hp9, hw⟩ := hw
          refine aw_callV (pc := 65) (as := [vI (1 : Int)]) C ci4 (fun As hA => met_X4_text G l As b61 (1 : Int) _ _ hA hw) tw414 tw333 tw334 tw2 tw335 ⟨rfl, rfl⟩ ⟨rfl, by decide, by decide, pd_X4_text⟩ ⟨Nat.le_of_ble_eq_true rfl, Nat.le_of_ble_eq_true rfl⟩ ⟨Nat.zero_le _, Nat.zero_le _⟩ (Nat.le_of_ble_eq_true rfl) dX1_show_65 rfl hp9 (fun v9 h65 hq9 => ?_)
          obtain ⟨r65, rfl, hw⟩ := hq9
          refine aw_iload_n (pc := 68) C dX1_show_68 rfl rfl ?_
          obtain ⟨hp9, hw⟩ := hw
          refine aw_callV (pc := 69) (as := [vI x3_8]) C ci5 (fun As hA => met_X5_codeOf G l As r65 x3_8 _ _ hA hw) tw514 tw345 tw346 tw3 tw347 ⟨rfl, rfl⟩ ⟨rfl, by decide, by decide, pd_X5_codeOf⟩ ⟨Nat.le_of_ble_eq_true rfl, Nat.le_of_ble_eq_true rfl⟩ ⟨Nat.zero_le _, Nat.zero_le _⟩ (Nat.le_of_ble_eq_true rfl) dX1_show_69 rfl hp9 (fun v9 h69 hq9 => ?_)
          obtain ⟨r69, rfl, hw⟩ := hq9
          obtain ⟨⟨k9, hp9⟩, hw⟩ := hw
          refine aw_iast (pc := 72) C dX1_show_72 hp9 (aw_nmH (fun h72 e9 => ?_))
          have hw := hw h72 e9
          refine aw_sub [(0, vR a0), (1, vI a1), (2, vR a2), (3, vI x3_8)] ⟨rfl, rfl, rfl, rfl, trivial⟩ ?_
          exact J_73  _ hw
  refine aw_sub [(0, vR a0), (1, vI a1), (2, vR a2), (3, vI (0 : Int))] ⟨rfl, rfl, rfl, rfl, trivial⟩ ?_
  exact L_8 n9 _ _ hi9
theorem dX1_codeShown_0 : decode cX1_codeShown 0 = .ok (.aload_n 0, 1) := by decide +kernel
theorem dX1_codeShown_1 : decode cX1_codeShown 1 = .ok (.iload_n 1, 1) := by decide +kernel
theorem dX1_codeShown_2 : decode cX1_codeShown 2 = .ok (.aload_n 0, 1) := by decide +kernel
theorem dX1_codeShown_3 : decode cX1_codeShown 3 = .ok (.getfield 18, 3) := by decide +kernel
theorem dX1_codeShown_6 : decode cX1_codeShown 6 = .ok (.invokevirtual 138, 3) := by decide +kernel
theorem dX1_codeShown_9 : decode cX1_codeShown 9 = .ok (.aload_n 0, 1) := by decide +kernel
theorem dX1_codeShown_10 : decode cX1_codeShown 10 = .ok (.getfield 18, 3) := by decide +kernel
theorem dX1_codeShown_13 : decode cX1_codeShown 13 = .ok (.iload_n 2, 1) := by decide +kernel
theorem dX1_codeShown_14 : decode cX1_codeShown 14 = .ok (.iaload, 1) := by decide +kernel
theorem dX1_codeShown_15 : decode cX1_codeShown 15 = .ok (.ireturn, 1) := by decide +kernel
theorem pd_X1_codeShown : (parseMethodDescriptor yX1_codeShown.desc).map (fun d => d.parameters.length) = some 2 := by decide +kernel
def w_X1_codeShown (zz : Nat → Nat) (a0 : Nat) (a1 : Int) (a2 : Int) (h : AH) (Q : Int → AH → Prop) : Prop := okA h a0 1 ∧ ∃ b3 : Nat, hfR h a0 5 = some b3 ∧ okA h a0 1 ∧ w_X1_show zz a0 a1 b3 h (fun  (h6 : AH) => okA h6 a0 1 ∧ ∃ b10 : Nat, hfR h6 a0 5 = some b10 ∧ okI h6 b10 a2 ∧ Q (haI h6 b10 a2) h6)
set_option maxRecDepth 100000 in
set_option maxHeartbeats 4000000 in
theorem met_X1_codeShown (G : GG) (l : Launch) : ∀ (As : List Value) (a0 : Nat) (a1 : Int) (a2 : Int) (h : AH) (Q : Int → AH → Prop), As.map ab = List.map some ([vR a0, vI a1, vI a2] : List AV) → w_X1_codeShown G.2.2 a0 a1 a2 h Q → Met l yX1_codeShown (.code yX1_codeShown cX1_codeShown 3 (some .int) :: xTb) ({ frames := 4, cells := 0, slots := 0, locals := 91 } : Room) (PcA G As h) (QG G (oI Q)) 0 0 (frA G) := by
  intro As a0 a1 a2 h Q hA hw
  refine met_of hA (by decide) (Nat.le_of_ble_eq_true rfl) (fun p e s m args below meth c C hml hr hnm => ?_)
  unfold w_X1_codeShown at hw
  refine aw_aload_n (pc := 0) C dX1_codeShown_0 rfl rfl ?_
  refine aw_iload_n (pc := 1) C dX1_codeShown_1 rfl rfl ?_
  refine aw_aload_n (pc := 2) C dX1_codeShown_2 rfl rfl ?_
  obtain ⟨hp9, b3, hb9, hw⟩ := hw
  refine aw_getR (pc := 3) C (ci := 1) (k := 5) ci1 (by decide) tw175 dX1_codeShown_3 rfl hp9 hb9 ?_
  obtain ⟨hp9, hw⟩ := hw
  refine aw_callV (pc := 6) (as := [vI a1, vR b3]) C ci1 (fun As hA => met_X1_show G l As a0 a1 b3 _ _ hA hw) tw509 tw511 (tbp 20 (n := 9) (by decide +kernel)) tw6 tw512 ⟨rfl, rfl⟩ ⟨rfl, by decide, by decide, pd_X1_show⟩ ⟨Nat.le_of_ble_eq_true rfl, Nat.le_of_ble_eq_true rfl⟩ ⟨Nat.zero_le _, Nat.zero_le _⟩ (Nat.le_of_ble_eq_true rfl) dX1_codeShown_6 rfl hp9 (fun v9 h6 hq9 => ?_)
  obtain ⟨rfl, hw⟩ := hq9
  refine aw_aload_n (pc := 9) C dX1_codeShown_9 rfl rfl ?_
  obtain ⟨hp9, b10, hb9, hw⟩ := hw
  refine aw_getR (pc := 10) C (ci := 1) (k := 5) ci1 (by decide) tw175 dX1_codeShown_10 rfl hp9 hb9 ?_
  refine aw_iload_n (pc := 13) C dX1_codeShown_13 rfl rfl ?_
  obtain ⟨⟨k9, hp9⟩, hw⟩ := hw
  refine aw_iald (pc := 14) C dX1_codeShown_14 hp9 ?_
  exact aw_iret (pc := 15) C hr dX1_codeShown_15 ⟨Nat.le_of_ble_eq_true rfl, Nat.le_of_ble_eq_true rfl⟩ ⟨_, rfl, hw⟩
theorem dX1_cellsWithLetters_0 : decode cX1_cellsWithLetters 0 = .ok (.aload_n 0, 1) := by decide +kernel
theorem dX1_cellsWithLetters_1 : decode cX1_cellsWithLetters 1 = .ok (.iload_n 1, 1) := by decide +kernel
theorem dX1_cellsWithLetters_2 : decode cX1_cellsWithLetters 2 = .ok (.aload_n 0, 1) := by decide +kernel
theorem dX1_cellsWithLetters_3 : decode cX1_cellsWithLetters 3 = .ok (.getfield 18, 3) := by decide +kernel
theorem dX1_cellsWithLetters_6 : decode cX1_cellsWithLetters 6 = .ok (.invokevirtual 138, 3) := by decide +kernel
theorem dX1_cellsWithLetters_9 : decode cX1_cellsWithLetters 9 = .ok (.iconst 0, 1) := by decide +kernel
theorem dX1_cellsWithLetters_10 : decode cX1_cellsWithLetters 10 = .ok (.istore_n 2, 1) := by decide +kernel
theorem dX1_cellsWithLetters_11 : decode cX1_cellsWithLetters 11 = .ok (.iconst 0, 1) := by decide +kernel
theorem dX1_cellsWithLetters_12 : decode cX1_cellsWithLetters 12 = .ok (.istore_n 3, 1) := by decide +kernel
theorem dX1_cellsWithLetters_13 : decode cX1_cellsWithLetters 13 = .ok (.iload_n 3, 1) := by decide +kernel
theorem dX1_cellsWithLetters_14 : decode cX1_cellsWithLetters 14 = .ok (.bipush 80, 2) := by decide +kernel
theorem dX1_cellsWithLetters_16 : decode cX1_cellsWithLetters 16 = .ok (.if_icmp .ge 28, 3) := by decide +kernel
theorem dX1_cellsWithLetters_19 : decode cX1_cellsWithLetters 19 = .ok (.iload_n 2, 1) := by decide +kernel
theorem dX1_cellsWithLetters_20 : decode cX1_cellsWithLetters 20 = .ok (.aload_n 0, 1) := by decide +kernel
theorem dX1_cellsWithLetters_21 : decode cX1_cellsWithLetters 21 = .ok (.getfield 18, 3) := by decide +kernel
theorem dX1_cellsWithLetters_24 : decode cX1_cellsWithLetters 24 = .ok (.iload_n 3, 1) := by decide +kernel
theorem dX1_cellsWithLetters_25 : decode cX1_cellsWithLetters 25 = .ok (.iaload, 1) := by decide +kernel
theorem dX1_cellsWithLetters_26 : decode cX1_cellsWithLetters 26 = .ok (.bipush 32, 2) := by decide +kernel
theorem dX1_cellsWithLetters_28 : decode cX1_cellsWithLetters 28 = .ok (.if_icmp .ne 7, 3) := by decide +kernel
theorem dX1_cellsWithLetters_31 : decode cX1_cellsWithLetters 31 = .ok (.iconst 0, 1) := by decide +kernel
theorem dX1_cellsWithLetters_32 : decode cX1_cellsWithLetters 32 = .ok (.goto 4, 3) := by decide +kernel
theorem dX1_cellsWithLetters_35 : decode cX1_cellsWithLetters 35 = .ok (.iconst 1, 1) := by decide +kernel
theorem dX1_cellsWithLetters_36 : decode cX1_cellsWithLetters 36 = .ok (.iadd, 1) := by decide +kernel
theorem dX1_cellsWithLetters_37 : decode cX1_cellsWithLetters 37 = .ok (.istore_n 2, 1) := by decide +kernel
theorem dX1_cellsWithLetters_38 : decode cX1_cellsWithLetters 38 = .ok (.iinc 3 1, 3) := by decide +kernel
theorem dX1_cellsWithLetters_41 : decode cX1_cellsWithLetters 41 = .ok (.goto (-28), 3) := by decide +kernel
theorem dX1_cellsWithLetters_44 : decode cX1_cellsWithLetters 44 = .ok (.iload_n 2, 1) := by decide +kernel
theorem dX1_cellsWithLetters_45 : decode cX1_cellsWithLetters 45 = .ok (.ireturn, 1) := by decide +kernel
theorem pd_X1_cellsWithLetters : (parseMethodDescriptor yX1_cellsWithLetters.desc).map (fun d => d.parameters.length) = some 1 := by decide +kernel
def w_X1_cellsWithLetters (zz : Nat → Nat) (a0 : Nat) (a1 : Int) (h : AH) (Q : Int → AH → Prop) : Prop := okA h a0 1 ∧ ∃ b3 : Nat, hfR h a0 5 = some b3 ∧ okA h a0 1 ∧ w_X1_show zz a0 a1 b3 h (fun  (h6 : AH) => ∃ I_13 : Nat → Int → Int → AH → Prop, (∃ n, I_13 n (0 : Int) (0 : Int) h6) ∧ ∀ (n_13 : Nat) (x2_13 : Int) (x3_13 : Int) (h_13 : AH), I_13 n_13 x2_13 x3_13 h_13 → ((((80 : Int) ≤ x3_13) → Q x2_13 h_13) ∧ ((¬ ((80 : Int) ≤ x3_13)) → okA h_13 a0 1 ∧ ∃ b21 : Nat, hfR h_13 a0 5 = some b21 ∧ okI h_13 b21 x3_13 ∧ jn (fun (t1_36 : Int) (h_36 : AH) => inR (x2_13 + t1_36) ∧ ∀ x2_37 : Int, x2_37 = (x2_13 + t1_36) → inR (x3_13 + 1) ∧ ∀ x3_38 : Int, x3_38 = (x3_13 + 1) → ∃ m, m < n_13 ∧ I_13 m x2_37 x3_38 h_36) (fun k_36 : Int → AH → Prop => ((¬ (haI h_13 b21 x3_13) = (32 : Int)) → k_36 (1 : Int) h_13) ∧ (((haI h_13 b21 x3_13) = (32 : Int)) → k_36 (0 : Int) h_13)))))
set_option maxRecDepth 100000 in
set_option maxHeartbeats 4000000 in
theorem met_X1_cellsWithLetters (G : GG) (l : Launch) : ∀ (As : List Value) (a0 : Nat) (a1 : Int) (h : AH) (Q : Int → AH → Prop), As.map ab = List.map some ([vR a0, vI a1] : List AV) → w_X1_cellsWithLetters G.2.2 a0 a1 h Q → Met l yX1_cellsWithLetters (.code yX1_cellsWithLetters cX1_cellsWithLetters 4 (some .int) :: xTb) ({ frames := 4, cells := 0, slots := 0, locals := 91 } : Room) (PcA G As h) (QG G (oI Q)) 0 0 (frA G) := by
  intro As a0 a1 h Q hA hw
  refine met_of hA (by decide) (Nat.le_of_ble_eq_true rfl) (fun p e s m args below meth c C hml hr hnm => ?_)
  unfold w_X1_cellsWithLetters at hw
  refine aw_aload_n (pc := 0) C dX1_cellsWithLetters_0 rfl rfl ?_
  refine aw_iload_n (pc := 1) C dX1_cellsWithLetters_1 rfl rfl ?_
  refine aw_aload_n (pc := 2) C dX1_cellsWithLetters_2 rfl rfl ?_
  obtain ⟨hp9, b3, hb9, hw⟩ := hw
  refine aw_getR (pc := 3) C (ci := 1) (k := 5) ci1 (by decide) tw175 dX1_cellsWithLetters_3 rfl hp9 hb9 ?_
  obtain ⟨hp9, hw⟩ := hw
  refine aw_callV (pc := 6) (as := [vI a1, vR b3]) C ci1 (fun As hA => met_X1_show G l As a0 a1 b3 _ _ hA hw) tw509 tw511 (tbp 20 (n := 9) (by decide +kernel)) tw6 tw512 ⟨rfl, rfl⟩ ⟨rfl, by decide, by decide, pd_X1_show⟩ ⟨Nat.le_of_ble_eq_true rfl, Nat.le_of_ble_eq_true rfl⟩ ⟨Nat.zero_le _, Nat.zero_le _⟩ (Nat.le_of_ble_eq_true rfl) dX1_cellsWithLetters_6 rfl hp9 (fun v9 h6 hq9 => ?_)
  obtain ⟨rfl, hw⟩ := hq9
  refine aw_iconst (pc := 9) C dX1_cellsWithLetters_9 (i := (0 : Int)) (by decide) ?_
  refine aw_istore_n (pc := 10) C dX1_cellsWithLetters_10 rfl (by rw [hml]; decide) ?_
  refine aw_iconst (pc := 11) C dX1_cellsWithLetters_11 (i := (0 : Int)) (by decide) ?_
  refine aw_istore_n (pc := 12) C dX1_cellsWithLetters_12 rfl (by rw [hml]; decide) ?_
  obtain ⟨I_13, ⟨n9, hi9⟩, hst9⟩ := hw
  have L_13 : ∀ (n_13 : Nat) (x2_13 : Int) (x3_13 : Int) (h_13 : AH), I_13 n_13 x2_13 x3_13 h_13 → AW G p l e ({ frames := 4, cells := 0, slots := 0, locals := 91 } : Room) s m args below meth c 0 0 (MQ below (QG G (oI Q)) args s 0 0 (frA G)) 13 (eOf [(0, vR a0), (2, vI x2_13), (3, vI x3_13)]) [] h_13 := by
    intro n_13
    induction n_13 using Nat.strongRecOn with
    | _ n_13 ih_13 =>
    intro x2_13 x3_13 h_13 hi9
    have hw := hst9 n_13 x2_13 x3_13 h_13 hi9
    refine aw_iload_n (pc := 13) C dX1_cellsWithLetters_13 rfl rfl ?_
    refine aw_bipush (pc := 14) C dX1_cellsWithLetters_14 (i := (80 : Int)) (by decide) ?_
    refine aw_icmp_ge (pc := 16) (tgt := 44) C dX1_cellsWithLetters_16 (by decide) (fun hc9 => ?_) (fun hc9 => ?_)
    · have hw := hw.1 hc9
      refine aw_iload_n (pc := 44) C dX1_cellsWithLetters_44 rfl rfl ?_
      exact aw_iret (pc := 45) C hr dX1_cellsWithLetters_45 ⟨Nat.le_of_ble_eq_true rfl, Nat.le_of_ble_eq_true rfl⟩ ⟨_, rfl, hw⟩
    · have hw := hw.2 hc9
      refine aw_iload_n (pc := 19) C dX1_cellsWithLetters_19 rfl rfl ?_
      refine aw_aload_n (pc := 20) C dX1_cellsWithLetters_20 rfl rfl ?_
      obtain ⟨hp9, b21, hb9, hw⟩ := hw
      refine aw_getR (pc := 21) C (ci := 1) (k := 5) ci1 (by decide) tw175 dX1_cellsWithLetters_21 rfl hp9 hb9 ?_
      refine aw_iload_n (pc := 24) C dX1_cellsWithLetters_24 rfl rfl ?_
      obtain ⟨⟨k9, hp9⟩, hw⟩ := hw
      refine aw_iald (pc := 25) C dX1_cellsWithLetters_25 hp9 ?_
      refine aw_bipush (pc := 26) C dX1_cellsWithLetters_26 (i := (32 : Int)) (by decide) ?_
      obtain ⟨k_36, hk_36, hw⟩ := jn_out hw
      have J_36 : ∀ (t1_36 : Int) (h_36 : AH), k_36 t1_36 h_36 → AW G p l e ({ frames := 4, cells := 0, slots := 0, locals := 91 } : Room) s m args below meth c 0 0 (MQ below (QG G (oI Q)) args s 0 0 (frA G)) 36 (eOf [(0, vR a0), (3, vI x3_13)]) [vI t1_36, vI x2_13] h_36 := by
        intro t1_36 h_36 hw
        rw [hk_36] at hw
        obtain ⟨hp9, hw⟩ := hw
        refine aw_iadd (pc := 36) C dX1_cellsWithLetters_36 hp9 ?_
        refine aw_nmI (fun x2_37 e9 => ?_)
        have hw := hw x2_37 e9
        refine aw_istore_n (pc := 37) C dX1_cellsWithLetters_37 rfl (by rw [hml]; decide) ?_
        obtain ⟨hp9, hw⟩ := hw
        refine aw_iincN (pc := 38) C dX1_cellsWithLetters_38 (k := 1) (by decide) rfl (by rw [hml]; decide) hp9 (fun x3_38 e9 => ?_)
        have hw := hw x3_38 e9
        refine aw_goto (pc := 41) (tgt := 13) C dX1_cellsWithLetters_41 (by decide) ?_
        obtain ⟨m9, hm9, hw⟩ := hw
        refine aw_sub [(0, vR a0), (2, vI x2_37), (3, vI x3_38)] ⟨rfl, rfl, rfl, trivial⟩ ?_
        exact ih_13 m9 hm9 _ _ _ hw
      refine aw_icmp_ne (pc := 28) (tgt := 35) C dX1_cellsWithLetters_28 (by decide) (fun hc9 => ?_) (fun hc9 => ?_)
      · have hw := hw.1 hc9
        refine aw_iconst (pc := 35) C dX1_cellsWithLetters_35 (i := (1 : Int)) (by decide) ?_
        refine aw_sub [(0, vR a0), (3, vI x3_13)] ⟨rfl, rfl, trivial⟩ ?_
        exact J_36 _ _ hw
      · have hw := hw.2 hc9
        refine aw_iconst (pc := 31) C dX1_cellsWithLetters_31 (i := (0 : Int)) (by decide) ?_
        refine aw_goto (pc := 32) (tgt := 36) C dX1_cellsWithLetters_32 (by decide) ?_
        refine aw_sub [(0, vR a0), (3, vI x3_13)] ⟨rfl, rfl, trivial⟩ ?_
        exact J_36 _ _ hw
  refine aw_sub [(0, vR a0), (2, vI (0 : Int)), (3, vI (0 : Int))] ⟨rfl, rfl, rfl, trivial⟩ ?_
  exact L_13 n9 _ _ _ hi9
theorem dX1_cellsThatDiffer_0 : decode cX1_cellsThatDiffer 0 = .ok (.aload_n 0, 1) := by decide +kernel
theorem dX1_cellsThatDiffer_1 : decode cX1_cellsThatDiffer 1 = .ok (.iload_n 1, 1) := by decide +kernel
theorem dX1_cellsThatDiffer_2 : decode cX1_cellsThatDiffer 2 = .ok (.iconst 1, 1) := by decide +kernel
theorem dX1_cellsThatDiffer_3 : decode cX1_cellsThatDiffer 3 = .ok (.isub, 1) := by decide +kernel
theorem dX1_cellsThatDiffer_4 : decode cX1_cellsThatDiffer 4 = .ok (.aload_n 0, 1) := by decide +kernel
theorem dX1_cellsThatDiffer_5 : decode cX1_cellsThatDiffer 5 = .ok (.getfield 21, 3) := by decide +kernel
theorem dX1_cellsThatDiffer_8 : decode cX1_cellsThatDiffer 8 = .ok (.invokevirtual 138, 3) := by decide +kernel
theorem dX1_cellsThatDiffer_11 : decode cX1_cellsThatDiffer 11 = .ok (.aload_n 0, 1) := by decide +kernel
theorem dX1_cellsThatDiffer_12 : decode cX1_cellsThatDiffer 12 = .ok (.iload_n 1, 1) := by decide +kernel
theorem dX1_cellsThatDiffer_13 : decode cX1_cellsThatDiffer 13 = .ok (.aload_n 0, 1) := by decide +kernel
theorem dX1_cellsThatDiffer_14 : decode cX1_cellsThatDiffer 14 = .ok (.getfield 18, 3) := by decide +kernel
theorem dX1_cellsThatDiffer_17 : decode cX1_cellsThatDiffer 17 = .ok (.invokevirtual 138, 3) := by decide +kernel
theorem dX1_cellsThatDiffer_20 : decode cX1_cellsThatDiffer 20 = .ok (.iconst 0, 1) := by decide +kernel
theorem dX1_cellsThatDiffer_21 : decode cX1_cellsThatDiffer 21 = .ok (.istore_n 2, 1) := by decide +kernel
theorem dX1_cellsThatDiffer_22 : decode cX1_cellsThatDiffer 22 = .ok (.iconst 0, 1) := by decide +kernel
theorem dX1_cellsThatDiffer_23 : decode cX1_cellsThatDiffer 23 = .ok (.istore_n 3, 1) := by decide +kernel
theorem dX1_cellsThatDiffer_24 : decode cX1_cellsThatDiffer 24 = .ok (.iload_n 3, 1) := by decide +kernel
theorem dX1_cellsThatDiffer_25 : decode cX1_cellsThatDiffer 25 = .ok (.bipush 80, 2) := by decide +kernel
theorem dX1_cellsThatDiffer_27 : decode cX1_cellsThatDiffer 27 = .ok (.if_icmp .ge 32, 3) := by decide +kernel
theorem dX1_cellsThatDiffer_30 : decode cX1_cellsThatDiffer 30 = .ok (.iload_n 2, 1) := by decide +kernel
theorem dX1_cellsThatDiffer_31 : decode cX1_cellsThatDiffer 31 = .ok (.aload_n 0, 1) := by decide +kernel
theorem dX1_cellsThatDiffer_32 : decode cX1_cellsThatDiffer 32 = .ok (.getfield 18, 3) := by decide +kernel
theorem dX1_cellsThatDiffer_35 : decode cX1_cellsThatDiffer 35 = .ok (.iload_n 3, 1) := by decide +kernel
theorem dX1_cellsThatDiffer_36 : decode cX1_cellsThatDiffer 36 = .ok (.iaload, 1) := by decide +kernel
theorem dX1_cellsThatDiffer_37 : decode cX1_cellsThatDiffer 37 = .ok (.aload_n 0, 1) := by decide +kernel
theorem dX1_cellsThatDiffer_38 : decode cX1_cellsThatDiffer 38 = .ok (.getfield 21, 3) := by decide +kernel
theorem dX1_cellsThatDiffer_41 : decode cX1_cellsThatDiffer 41 = .ok (.iload_n 3, 1) := by decide +kernel
theorem dX1_cellsThatDiffer_42 : decode cX1_cellsThatDiffer 42 = .ok (.iaload, 1) := by decide +kernel
theorem dX1_cellsThatDiffer_43 : decode cX1_cellsThatDiffer 43 = .ok (.if_icmp .ne 7, 3) := by decide +kernel
theorem dX1_cellsThatDiffer_46 : decode cX1_cellsThatDiffer 46 = .ok (.iconst 0, 1) := by decide +kernel
theorem dX1_cellsThatDiffer_47 : decode cX1_cellsThatDiffer 47 = .ok (.goto 4, 3) := by decide +kernel
theorem dX1_cellsThatDiffer_50 : decode cX1_cellsThatDiffer 50 = .ok (.iconst 1, 1) := by decide +kernel
theorem dX1_cellsThatDiffer_51 : decode cX1_cellsThatDiffer 51 = .ok (.iadd, 1) := by decide +kernel
theorem dX1_cellsThatDiffer_52 : decode cX1_cellsThatDiffer 52 = .ok (.istore_n 2, 1) := by decide +kernel
theorem dX1_cellsThatDiffer_53 : decode cX1_cellsThatDiffer 53 = .ok (.iinc 3 1, 3) := by decide +kernel
theorem dX1_cellsThatDiffer_56 : decode cX1_cellsThatDiffer 56 = .ok (.goto (-32), 3) := by decide +kernel
theorem dX1_cellsThatDiffer_59 : decode cX1_cellsThatDiffer 59 = .ok (.iload_n 2, 1) := by decide +kernel
theorem dX1_cellsThatDiffer_60 : decode cX1_cellsThatDiffer 60 = .ok (.ireturn, 1) := by decide +kernel
theorem pd_X1_cellsThatDiffer : (parseMethodDescriptor yX1_cellsThatDiffer.desc).map (fun d => d.parameters.length) = some 1 := by decide +kernel
def w_X1_cellsThatDiffer (zz : Nat → Nat) (a0 : Nat) (a1 : Int) (h : AH) (Q : Int → AH → Prop) : Prop := inR (a1 - (1 : Int)) ∧ okA h a0 1 ∧ ∃ b5 : Nat, hfR h a0 6 = some b5 ∧ okA h a0 1 ∧ w_X1_show zz a0 (a1 - (1 : Int)) b5 h (fun  (h8 : AH) => okA h8 a0 1 ∧ ∃ b14 : Nat, hfR h8 a0 5 = some b14 ∧ okA h8 a0 1 ∧ w_X1_show zz a0 a1 b14 h8 (fun  (h17 : AH) => ∃ I_24 : Nat → Int → Int → AH → Prop, (∃ n, I_24 n (0 : Int) (0 : Int) h17) ∧ ∀ (n_24 : Nat) (x2_24 : Int) (x3_24 : Int) (h_24 : AH), I_24 n_24 x2_24 x3_24 h_24 → ((((80 : Int) ≤ x3_24) → Q x2_24 h_24) ∧ ((¬ ((80 : Int) ≤ x3_24)) → okA h_24 a0 1 ∧ ∃ b32 : Nat, hfR h_24 a0 5 = some b32 ∧ okI h_24 b32 x3_24 ∧ okA h_24 a0 1 ∧ ∃ b38 : Nat, hfR h_24 a0 6 = some b38 ∧ okI h_24 b38 x3_24 ∧ jn (fun (t1_51 : Int) (h_51 : AH) => inR (x2_24 + t1_51) ∧ ∀ x2_52 : Int, x2_52 = (x2_24 + t1_51) → inR (x3_24 + 1) ∧ ∀ x3_53 : Int, x3_53 = (x3_24 + 1) → ∃ m, m < n_24 ∧ I_24 m x2_52 x3_53 h_51) (fun k_51 : Int → AH → Prop => ((¬ (haI h_24 b32 x3_24) = (haI h_24 b38 x3_24)) → k_51 (1 : Int) h_24) ∧ (((haI h_24 b32 x3_24) = (haI h_24 b38 x3_24)) → k_51 (0 : Int) h_24))))))
set_option maxRecDepth 100000 in
set_option maxHeartbeats 4000000 in
theorem met_X1_cellsThatDiffer (G : GG) (l : Launch) : ∀ (As : List Value) (a0 : Nat) (a1 : Int) (h : AH) (Q : Int → AH → Prop), As.map ab = List.map some ([vR a0, vI a1] : List AV) → w_X1_cellsThatDiffer G.2.2 a0 a1 h Q → Met l yX1_cellsThatDiffer (.code yX1_cellsThatDiffer cX1_cellsThatDiffer 4 (some .int) :: xTb) ({ frames := 4, cells := 0, slots := 0, locals := 91 } : Room) (PcA G As h) (QG G (oI Q)) 0 0 (frA G) := by
  intro As a0 a1 h Q hA hw
  refine met_of hA (by decide) (Nat.le_of_ble_eq_true rfl) (fun p e s m args below meth c C hml hr hnm => ?_)
  unfold w_X1_cellsThatDiffer at hw
  refine aw_aload_n (pc := 0) C dX1_cellsThatDiffer_0 rfl rfl ?_
  refine aw_iload_n (pc := 1) C dX1_cellsThatDiffer_1 rfl rfl ?_
  refine aw_iconst (pc := 2) C dX1_cellsThatDiffer_2 (i := (1 : Int)) (by decide) ?_
  obtain ⟨hp9, hw⟩ := hw
  refine aw_isub (pc := 3) C dX1_cellsThatDiffer_3 hp9 ?_
  refine aw_aload_n (pc := 4) C dX1_cellsThatDiffer_4 rfl rfl ?_
  obtain ⟨hp9, b5, hb9, hw⟩ := hw
  refine aw_getR (pc := 5) C (ci := 1) (k := 6) ci1 (by decide) tw176 dX1_cellsThatDiffer_5 rfl hp9 hb9 ?_
  obtain ⟨hp9, hw⟩ := hw
  refine aw_callV (pc := 8) (as := [vI (a1 - (1 : Int)), vR b5]) C ci1 (fun As hA => met_X1_show G l As a0 (a1 - (1 : Int)) b5 _ _ hA hw) tw509 tw511 (tbp 20 (n := 9) (by decide +kernel)) tw6 tw512 ⟨rfl, rfl⟩ ⟨rfl, by decide, by decide, pd_X1_show⟩ ⟨Nat.le_of_ble_eq_true rfl, Nat.le_of_ble_eq_true rfl⟩ ⟨Nat.zero_le _, Nat.zero_le _⟩ (Nat.le_of_ble_eq_true rfl) dX1_cellsThatDiffer_8 rfl hp9 (fun v9 h8 hq9 => ?_)
  obtain ⟨rfl, hw⟩ := hq9
  refine aw_aload_n (pc := 11) C dX1_cellsThatDiffer_11 rfl rfl ?_
  refine aw_iload_n (pc := 12) C dX1_cellsThatDiffer_12 rfl rfl ?_
  refine aw_aload_n (pc := 13) C dX1_cellsThatDiffer_13 rfl rfl ?_
  obtain ⟨hp9, b14, hb9, hw⟩ := hw
  refine aw_getR (pc := 14) C (ci := 1) (k := 5) ci1 (by decide) tw175 dX1_cellsThatDiffer_14 rfl hp9 hb9 ?_
  obtain ⟨hp9, hw⟩ := hw
  refine aw_callV (pc := 17) (as := [vI a1, vR b14]) C ci1 (fun As hA => met_X1_show G l As a0 a1 b14 _ _ hA hw) tw509 tw511 (tbp 20 (n := 9) (by decide +kernel)) tw6 tw512 ⟨rfl, rfl⟩ ⟨rfl, by decide, by decide, pd_X1_show⟩ ⟨Nat.le_of_ble_eq_true rfl, Nat.le_of_ble_eq_true rfl⟩ ⟨Nat.zero_le _, Nat.zero_le _⟩ (Nat.le_of_ble_eq_true rfl) dX1_cellsThatDiffer_17 rfl hp9 (fun v9 h17 hq9 => ?_)
  obtain ⟨rfl, hw⟩ := hq9
  refine aw_iconst (pc := 20) C dX1_cellsThatDiffer_20 (i := (0 : Int)) (by decide) ?_
  refine aw_istore_n (pc := 21) C dX1_cellsThatDiffer_21 rfl (by rw [hml]; decide) ?_
  refine aw_iconst (pc := 22) C dX1_cellsThatDiffer_22 (i := (0 : Int)) (by decide) ?_
  refine aw_istore_n (pc := 23) C dX1_cellsThatDiffer_23 rfl (by rw [hml]; decide) ?_
  obtain ⟨I_24, ⟨n9, hi9⟩, hst9⟩ := hw
  have L_24 : ∀ (n_24 : Nat) (x2_24 : Int) (x3_24 : Int) (h_24 : AH), I_24 n_24 x2_24 x3_24 h_24 → AW G p l e ({ frames := 4, cells := 0, slots := 0, locals := 91 } : Room) s m args below meth c 0 0 (MQ below (QG G (oI Q)) args s 0 0 (frA G)) 24 (eOf [(0, vR a0), (2, vI x2_24), (3, vI x3_24)]) [] h_24 := by
    intro n_24
    induction n_24 using Nat.strongRecOn with
    | _ n_24 ih_24 =>
    intro x2_24 x3_24 h_24 hi9
    have hw := hst9 n_24 x2_24 x3_24 h_24 hi9
    refine aw_iload_n (pc := 24) C dX1_cellsThatDiffer_24 rfl rfl ?_
    refine aw_bipush (pc := 25) C dX1_cellsThatDiffer_25 (i := (80 : Int)) (by decide) ?_
    refine aw_icmp_ge (pc := 27) (tgt := 59) C dX1_cellsThatDiffer_27 (by decide) (fun hc9 => ?_) (fun hc9 => ?_)
    · have hw := hw.1 hc9
      refine aw_iload_n (pc := 59) C dX1_cellsThatDiffer_59 rfl rfl ?_
      exact aw_iret (pc := 60) C hr dX1_cellsThatDiffer_60 ⟨Nat.le_of_ble_eq_true rfl, Nat.le_of_ble_eq_true rfl⟩ ⟨_, rfl, hw⟩
    · have hw := hw.2 hc9
      refine aw_iload_n (pc := 30) C dX1_cellsThatDiffer_30 rfl rfl ?_
      refine aw_aload_n (pc := 31) C dX1_cellsThatDiffer_31 rfl rfl ?_
      obtain ⟨hp9, b32, hb9, hw⟩ := hw
      refine aw_getR (pc := 32) C (ci := 1) (k := 5) ci1 (by decide) tw175 dX1_cellsThatDiffer_32 rfl hp9 hb9 ?_
      refine aw_iload_n (pc := 35) C dX1_cellsThatDiffer_35 rfl rfl ?_
      obtain ⟨⟨k9, hp9⟩, hw⟩ := hw
      refine aw_iald (pc := 36) C dX1_cellsThatDiffer_36 hp9 ?_
      refine aw_aload_n (pc := 37) C dX1_cellsThatDiffer_37 rfl rfl ?_
      obtain ⟨hp9, b38, hb9, hw⟩ := hw
      refine aw_getR (pc := 38) C (ci := 1) (k := 6) ci1 (by decide) tw176 dX1_cellsThatDiffer_38 rfl hp9 hb9 ?_
      refine aw_iload_n (pc := 41) C dX1_cellsThatDiffer_41 rfl rfl ?_
      obtain ⟨⟨k9, hp9⟩, hw⟩ := hw
      refine aw_iald (pc := 42) C dX1_cellsThatDiffer_42 hp9 ?_
      obtain ⟨k_51, hk_51, hw⟩ := jn_out hw
      have J_51 : ∀ (t1_51 : Int) (h_51 : AH), k_51 t1_51 h_51 → AW G p l e ({ frames := 4, cells := 0, slots := 0, locals := 91 } : Room) s m args below meth c 0 0 (MQ below (QG G (oI Q)) args s 0 0 (frA G)) 51 (eOf [(0, vR a0), (3, vI x3_24)]) [vI t1_51, vI x2_24] h_51 := by
        intro t1_51 h_51 hw
        rw [hk_51] at hw
        obtain ⟨hp9, hw⟩ := hw
        refine aw_iadd (pc := 51) C dX1_cellsThatDiffer_51 hp9 ?_
        refine aw_nmI (fun x2_52 e9 => ?_)
        have hw := hw x2_52 e9
        refine aw_istore_n (pc := 52) C dX1_cellsThatDiffer_52 rfl (by rw [hml]; decide) ?_
        obtain ⟨hp9, hw⟩ := hw
        refine aw_iincN (pc := 53) C dX1_cellsThatDiffer_53 (k := 1) (by decide) rfl (by rw [hml]; decide) hp9 (fun x3_53 e9 => ?_)
        have hw := hw x3_53 e9
        refine aw_goto (pc := 56) (tgt := 24) C dX1_cellsThatDiffer_56 (by decide) ?_
        obtain ⟨m9, hm9, hw⟩ := hw
        refine aw_sub [(0, vR a0), (2, vI x2_52), (3, vI x3_53)] ⟨rfl, rfl, rfl, trivial⟩ ?_
        exact ih_24 m9 hm9 _ _ _ hw
      refine aw_icmp_ne (pc := 43) (tgt := 50) C dX1_cellsThatDiffer_43 (by decide) (fun hc9 => ?_) (fun hc9 => ?_)
      · have hw := hw.1 hc9
        refine aw_iconst (pc := 50) C dX1_cellsThatDiffer_50 (i := (1 : Int)) (by decide) ?_
        refine aw_sub [(0, vR a0), (3, vI x3_24)] ⟨rfl, rfl, trivial⟩ ?_
        exact J_51 _ _ hw
      · have hw := hw.2 hc9
        refine aw_iconst (pc := 46) C dX1_cellsThatDiffer_46 (i := (0 : Int)) (by decide) ?_
        refine aw_goto (pc := 47) (tgt := 51) C dX1_cellsThatDiffer_47 (by decide) ?_
        refine aw_sub [(0, vR a0), (3, vI x3_24)] ⟨rfl, rfl, trivial⟩ ?_
        exact J_51 _ _ hw
  refine aw_sub [(0, vR a0), (2, vI (0 : Int)), (3, vI (0 : Int))] ⟨rfl, rfl, rfl, trivial⟩ ?_
  exact L_24 n9 _ _ _ hi9
theorem dX1_sharedCells_0 : decode cX1_sharedCells 0 = .ok (.aload_n 0, 1) := by decide +kernel
theorem dX1_sharedCells_1 : decode cX1_sharedCells 1 = .ok (.getfield 24, 3) := by decide +kernel
theorem dX1_sharedCells_4 : decode cX1_sharedCells 4 = .ok (.iconst 0, 1) := by decide +kernel
theorem dX1_sharedCells_5 : decode cX1_sharedCells 5 = .ok (.invokestatic 171, 3) := by decide +kernel
theorem dX1_sharedCells_8 : decode cX1_sharedCells 8 = .ok (.iconst 0, 1) := by decide +kernel
theorem dX1_sharedCells_9 : decode cX1_sharedCells 9 = .ok (.istore_n 2, 1) := by decide +kernel
theorem dX1_sharedCells_10 : decode cX1_sharedCells 10 = .ok (.iconst 0, 1) := by decide +kernel
theorem dX1_sharedCells_11 : decode cX1_sharedCells 11 = .ok (.istore_n 3, 1) := by decide +kernel
theorem dX1_sharedCells_12 : decode cX1_sharedCells 12 = .ok (.iload_n 3, 1) := by decide +kernel
theorem dX1_sharedCells_13 : decode cX1_sharedCells 13 = .ok (.aload_n 0, 1) := by decide +kernel
theorem dX1_sharedCells_14 : decode cX1_sharedCells 14 = .ok (.getfield 31, 3) := by decide +kernel
theorem dX1_sharedCells_17 : decode cX1_sharedCells 17 = .ok (.iconst 0, 1) := by decide +kernel
theorem dX1_sharedCells_18 : decode cX1_sharedCells 18 = .ok (.invokevirtual 65, 3) := by decide +kernel
theorem dX1_sharedCells_21 : decode cX1_sharedCells 21 = .ok (.getfield 69, 3) := by decide +kernel
theorem dX1_sharedCells_24 : decode cX1_sharedCells 24 = .ok (.if_icmp .ge 53, 3) := by decide +kernel
theorem dX1_sharedCells_27 : decode cX1_sharedCells 27 = .ok (.aload_n 0, 1) := by decide +kernel
theorem dX1_sharedCells_28 : decode cX1_sharedCells 28 = .ok (.iload_n 3, 1) := by decide +kernel
theorem dX1_sharedCells_29 : decode cX1_sharedCells 29 = .ok (.iload_n 1, 1) := by decide +kernel
theorem dX1_sharedCells_30 : decode cX1_sharedCells 30 = .ok (.invokevirtual 180, 3) := by decide +kernel
theorem dX1_sharedCells_33 : decode cX1_sharedCells 33 = .ok (.istore 4, 2) := by decide +kernel
theorem dX1_sharedCells_35 : decode cX1_sharedCells 35 = .ok (.iload 4, 2) := by decide +kernel
theorem dX1_sharedCells_37 : decode cX1_sharedCells 37 = .ok (.iconst (-1), 1) := by decide +kernel
theorem dX1_sharedCells_38 : decode cX1_sharedCells 38 = .ok (.if_icmp .eq 33, 3) := by decide +kernel
theorem dX1_sharedCells_41 : decode cX1_sharedCells 41 = .ok (.aload_n 0, 1) := by decide +kernel
theorem dX1_sharedCells_42 : decode cX1_sharedCells 42 = .ok (.getfield 24, 3) := by decide +kernel
theorem dX1_sharedCells_45 : decode cX1_sharedCells 45 = .ok (.iload 4, 2) := by decide +kernel
theorem dX1_sharedCells_47 : decode cX1_sharedCells 47 = .ok (.dup2, 1) := by decide +kernel
theorem dX1_sharedCells_48 : decode cX1_sharedCells 48 = .ok (.iaload, 1) := by decide +kernel
theorem dX1_sharedCells_49 : decode cX1_sharedCells 49 = .ok (.iconst 1, 1) := by decide +kernel
theorem dX1_sharedCells_50 : decode cX1_sharedCells 50 = .ok (.iadd, 1) := by decide +kernel
theorem dX1_sharedCells_51 : decode cX1_sharedCells 51 = .ok (.iastore, 1) := by decide +kernel
theorem dX1_sharedCells_52 : decode cX1_sharedCells 52 = .ok (.iload_n 2, 1) := by decide +kernel
theorem dX1_sharedCells_53 : decode cX1_sharedCells 53 = .ok (.aload_n 0, 1) := by decide +kernel
theorem dX1_sharedCells_54 : decode cX1_sharedCells 54 = .ok (.getfield 24, 3) := by decide +kernel
theorem dX1_sharedCells_57 : decode cX1_sharedCells 57 = .ok (.iload 4, 2) := by decide +kernel
theorem dX1_sharedCells_59 : decode cX1_sharedCells 59 = .ok (.iaload, 1) := by decide +kernel
theorem dX1_sharedCells_60 : decode cX1_sharedCells 60 = .ok (.iconst 2, 1) := by decide +kernel
theorem dX1_sharedCells_61 : decode cX1_sharedCells 61 = .ok (.if_icmp .ne 7, 3) := by decide +kernel
theorem dX1_sharedCells_64 : decode cX1_sharedCells 64 = .ok (.iconst 1, 1) := by decide +kernel
theorem dX1_sharedCells_65 : decode cX1_sharedCells 65 = .ok (.goto 4, 3) := by decide +kernel
theorem dX1_sharedCells_68 : decode cX1_sharedCells 68 = .ok (.iconst 0, 1) := by decide +kernel
theorem dX1_sharedCells_69 : decode cX1_sharedCells 69 = .ok (.iadd, 1) := by decide +kernel
theorem dX1_sharedCells_70 : decode cX1_sharedCells 70 = .ok (.istore_n 2, 1) := by decide +kernel
theorem dX1_sharedCells_71 : decode cX1_sharedCells 71 = .ok (.iinc 3 1, 3) := by decide +kernel
theorem dX1_sharedCells_74 : decode cX1_sharedCells 74 = .ok (.goto (-62), 3) := by decide +kernel
theorem dX1_sharedCells_77 : decode cX1_sharedCells 77 = .ok (.iload_n 2, 1) := by decide +kernel
theorem dX1_sharedCells_78 : decode cX1_sharedCells 78 = .ok (.ireturn, 1) := by decide +kernel
theorem pd_X1_sharedCells : (parseMethodDescriptor yX1_sharedCells.desc).map (fun d => d.parameters.length) = some 1 := by decide +kernel
def w_X1_sharedCells (zz : Nat → Nat) (a0 : Nat) (a1 : Int) (h : AH) (Q : Int → AH → Prop) : Prop := okA h a0 1 ∧ ∃ b1 : Nat, hfR h a0 7 = some b1 ∧ w_J7_fill_53178 zz b1 (0 : Int) h (fun  (h5 : AH) => ∃ I_12 : Nat → Int → Int → AH → Prop, (∃ n, I_12 n (0 : Int) (0 : Int) h5) ∧ ∀ (n_12 : Nat) (x2_12 : Int) (x3_12 : Int) (h_12 : AH), I_12 n_12 x2_12 x3_12 h_12 → (okA h_12 a0 1 ∧ ∃ b14 : Nat, hfR h_12 a0 2 = some b14 ∧ okA h_12 b14 4 ∧ w_X4_text zz b14 (0 : Int) h_12 (fun (r18 : Nat) (h18 : AH) => okA h18 r18 5 ∧ (((hfI h18 r18 2) ≤ x3_12) → Q x2_12 h18) ∧ ((¬ ((hfI h18 r18 2) ≤ x3_12)) → okA h18 a0 1 ∧ w_X1_cellOf zz a0 x3_12 a1 h18 (fun (r30 : Int) (h30 : AH) => jn (fun (x2_71 : Int) (h_71 : AH) => inR (x3_12 + 1) ∧ ∀ x3_71 : Int, x3_71 = (x3_12 + 1) → ∃ m, m < n_12 ∧ I_12 m x2_71 x3_71 h_71) (fun k_71 : Int → AH → Prop => ((r30 = (-1 : Int)) → k_71 x2_12 h30) ∧ ((¬ (r30 = (-1 : Int))) → okA h30 a0 1 ∧ ∃ b42 : Nat, hfR h30 a0 7 = some b42 ∧ okI h30 b42 r30 ∧ inR ((haI h30 b42 r30) + (1 : Int)) ∧ okW h30 b42 r30 ∧ ∀ h51 : AH, h51 = saI h30 b42 (u1 (haI h30 b42) r30 ((haI h30 b42 r30) + (1 : Int))) → okA h51 a0 1 ∧ ∃ b54 : Nat, hfR h51 a0 7 = some b54 ∧ okI h51 b54 r30 ∧ jn (fun (t1_69 : Int) (h_69 : AH) => inR (x2_12 + t1_69) ∧ ∀ x2_70 : Int, x2_70 = (x2_12 + t1_69) → k_71 x2_70 h_69) (fun k_69 : Int → AH → Prop => ((¬ (haI h51 b54 r30) = (2 : Int)) → k_69 (0 : Int) h51) ∧ (((haI h51 b54 r30) = (2 : Int)) → k_69 (1 : Int) h51)))))))))
set_option maxRecDepth 100000 in
set_option maxHeartbeats 4000000 in
theorem met_X1_sharedCells (G : GG) (l : Launch) : ∀ (As : List Value) (a0 : Nat) (a1 : Int) (h : AH) (Q : Int → AH → Prop), As.map ab = List.map some ([vR a0, vI a1] : List AV) → w_X1_sharedCells G.2.2 a0 a1 h Q → Met l yX1_sharedCells (.code yX1_sharedCells cX1_sharedCells 5 (some .int) :: xTb) ({ frames := 3, cells := 0, slots := 0, locals := 65 } : Room) (PcA G As h) (QG G (oI Q)) 0 0 (frA G) := by
  intro As a0 a1 h Q hA hw
  refine met_of hA (by decide) (Nat.le_of_ble_eq_true rfl) (fun p e s m args below meth c C hml hr hnm => ?_)
  unfold w_X1_sharedCells at hw
  refine aw_aload_n (pc := 0) C dX1_sharedCells_0 rfl rfl ?_
  obtain ⟨hp9, b1, hb9, hw⟩ := hw
  refine aw_getR (pc := 1) C (ci := 1) (k := 7) ci1 (by decide) tw177 dX1_sharedCells_1 rfl hp9 hb9 ?_
  refine aw_iconst (pc := 4) C dX1_sharedCells_4 (i := (0 : Int)) (by decide) ?_
  refine aw_callS (pc := 5) (as := [vR b1, vI (0 : Int)]) C (fun As hA => met_J7_fill_53178 G l As b1 (0 : Int) _ _ hA hw) tw513 tw38 tw4 tw39 ⟨rfl, rfl⟩ ⟨by decide, by decide, pd_J7_fill_53178⟩ ⟨Nat.le_of_ble_eq_true rfl, Nat.le_of_ble_eq_true rfl⟩ ⟨Nat.zero_le _, Nat.zero_le _⟩ (Nat.le_of_ble_eq_true rfl) dX1_sharedCells_5 rfl (fun v9 h5 hq9 => ?_)
  obtain ⟨rfl, hw⟩ := hq9
  refine aw_iconst (pc := 8) C dX1_sharedCells_8 (i := (0 : Int)) (by decide) ?_
  refine aw_istore_n (pc := 9) C dX1_sharedCells_9 rfl (by rw [hml]; decide) ?_
  refine aw_iconst (pc := 10) C dX1_sharedCells_10 (i := (0 : Int)) (by decide) ?_
  refine aw_istore_n (pc := 11) C dX1_sharedCells_11 rfl (by rw [hml]; decide) ?_
  obtain ⟨I_12, ⟨n9, hi9⟩, hst9⟩ := hw
  have L_12 : ∀ (n_12 : Nat) (x2_12 : Int) (x3_12 : Int) (h_12 : AH), I_12 n_12 x2_12 x3_12 h_12 → AW G p l e ({ frames := 3, cells := 0, slots := 0, locals := 65 } : Room) s m args below meth c 0 0 (MQ below (QG G (oI Q)) args s 0 0 (frA G)) 12 (eOf [(0, vR a0), (1, vI a1), (2, vI x2_12), (3, vI x3_12)]) [] h_12 := by
    intro n_12
    induction n_12 using Nat.strongRecOn with
    | _ n_12 ih_12 =>
    intro x2_12 x3_12 h_12 hi9
    have hw := hst9 n_12 x2_12 x3_12 h_12 hi9
    refine aw_iload_n (pc := 12) C dX1_sharedCells_12 rfl rfl ?_
    refine aw_aload_n (pc := 13) C dX1_sharedCells_13 rfl rfl ?_
    obtain ⟨hp9, b14, hb9, hw⟩ := hw
    refine aw_getR (pc := 14) C (ci := 1) (k := 2) ci1 (by decide) tw172 dX1_sharedCells_14 rfl hp9 hb9 ?_
    refine aw_iconst (pc := 17) C dX1_sharedCells_17 (i := (0 : Int)) (by decide) ?_
    obtain ⟨hp9, hw⟩ := hw
    refine aw_callV (pc := 18) (as := [vI (0 : Int)]) C ci4 (fun As hA => met_X4_text G l As b14 (0 : Int) _ _ hA hw) tw414 tw333 tw334 tw2 tw335 ⟨rfl, rfl⟩ ⟨rfl, by decide, by decide, pd_X4_text⟩ ⟨Nat.le_of_ble_eq_true rfl, Nat.le_of_ble_eq_true rfl⟩ ⟨Nat.zero_le _, Nat.zero_le _⟩ (Nat.le_of_ble_eq_true rfl) dX1_sharedCells_18 rfl hp9 (fun v9 h18 hq9 => ?_)
    obtain ⟨r18, rfl, hw⟩ := hq9
    obtain ⟨hp9, hw⟩ := hw
    refine aw_getI (pc := 21) C (ci := 5) (k := 2) ci5 (by decide) tw46 dX1_sharedCells_21 rfl hp9 ?_
    refine aw_icmp_ge (pc := 24) (tgt := 77) C dX1_sharedCells_24 (by decide) (fun hc9 => ?_) (fun hc9 => ?_)
    · have hw := hw.1 hc9
      refine aw_iload_n (pc := 77) C dX1_sharedCells_77 rfl rfl ?_
      exact aw_iret (pc := 78) C hr dX1_sharedCells_78 ⟨Nat.le_of_ble_eq_true rfl, Nat.le_of_ble_eq_true rfl⟩ ⟨_, rfl, hw⟩
    · have hw := hw.2 hc9
      refine aw_aload_n (pc := 27) C dX1_sharedCells_27 rfl rfl ?_
      refine aw_iload_n (pc := 28) C dX1_sharedCells_28 rfl rfl ?_
      refine aw_iload_n (pc := 29) C dX1_sharedCells_29 rfl rfl ?_
      obtain ⟨hp9, hw⟩ := hw
      refine aw_callV (pc := 30) (as := [vI x3_12, vI a1]) C ci1 (fun As hA => met_X1_cellOf G l As a0 x3_12 a1 _ _ hA hw) tw515 tw516 tw517 tw6 tw518 ⟨rfl, rfl⟩ ⟨rfl, by decide, by decide, pd_X1_cellOf⟩ ⟨Nat.le_of_ble_eq_true rfl, Nat.le_of_ble_eq_true rfl⟩ ⟨Nat.zero_le _, Nat.zero_le _⟩ (Nat.le_of_ble_eq_true rfl) dX1_sharedCells_30 rfl hp9 (fun v9 h30 hq9 => ?_)
      obtain ⟨r30, rfl, hw⟩ := hq9
      refine aw_istore (pc := 33) C dX1_sharedCells_33 (by rw [hml]; decide) ?_
      refine aw_iload (pc := 35) C dX1_sharedCells_35 rfl ?_
      refine aw_iconst (pc := 37) C dX1_sharedCells_37 (i := (-1 : Int)) (by decide) ?_
      obtain ⟨k_71, hk_71, hw⟩ := jn_out hw
      have J_71 : ∀ (x2_71 : Int) (h_71 : AH), k_71 x2_71 h_71 → AW G p l e ({ frames := 3, cells := 0, slots := 0, locals := 65 } : Room) s m args below meth c 0 0 (MQ below (QG G (oI Q)) args s 0 0 (frA G)) 71 (eOf [(0, vR a0), (1, vI a1), (2, vI x2_71), (3, vI x3_12)]) [] h_71 := by
        intro x2_71 h_71 hw
        rw [hk_71] at hw
        obtain ⟨hp9, hw⟩ := hw
        refine aw_iincN (pc := 71) C dX1_sharedCells_71 (k := 1) (by decide) rfl (by rw [hml]; decide) hp9 (fun x3_71 e9 => ?_)
        have hw := hw x3_71 e9
        refine aw_goto (pc := 74) (tgt := 12) C dX1_sharedCells_74 (by decide) ?_
        obtain ⟨m9, hm9, hw⟩ := hw
        refine aw_sub [(0, vR a0), (1, vI a1), (2, vI x2_71), (3, vI x3_71)] ⟨rfl, rfl, rfl, rfl, trivial⟩ ?_
        exact ih_12 m9 hm9 _ _ _ hw
      refine aw_icmp_eq (pc := 38) (tgt := 71) C dX1_sharedCells_38 (by decide) (fun hc9 => ?_) (fun hc9 => ?_)
      · have hw := hw.1 hc9
        refine aw_sub [(0, vR a0), (1, vI a1), (2, vI x2_12), (3, vI x3_12)] ⟨rfl, rfl, rfl, rfl, trivial⟩ ?_
        exact J_71 _ _ hw
      · have hw := hw.2 hc9
        refine aw_aload_n (pc := 41) C dX1_sharedCells_41 rfl rfl ?_
        obtain ⟨hp9, b42, hb9, hw⟩ := hw
        refine aw_getR (pc := 42) C (ci := 1) (k := 7) ci1 (by decide) tw177 dX1_sharedCells_42 rfl hp9 hb9 ?_
        refine aw_iload (pc := 45) C dX1_sharedCells_45 rfl ?_
        refine aw_dup2 (pc := 47) C dX1_sharedCells_47 rfl rfl ?_
        obtain ⟨⟨k9, hp9⟩, hw⟩ := hw
        refine aw_iald (pc := 48) C dX1_sharedCells_48 hp9 ?_
        refine aw_iconst (pc := 49) C dX1_sharedCells_49 (i := (1 : Int)) (by decide) ?_
        obtain ⟨hp9, hw⟩ := hw
        refine aw_iadd (pc := 50) C dX1_sharedCells_50 hp9 ?_
        obtain ⟨⟨k9, hp9⟩, hw⟩ := hw
        refine aw_iast (pc := 51) C dX1_sharedCells_51 hp9 (aw_nmH (fun h51 e9 => ?_))
        have hw := hw h51 e9
        refine aw_iload_n (pc := 52) C dX1_sharedCells_52 rfl rfl ?_
        refine aw_aload_n (pc := 53) C dX1_sharedCells_53 rfl rfl ?_
        obtain ⟨hp9, b54, hb9, hw⟩ := hw
        refine aw_getR (pc := 54) C (ci := 1) (k := 7) ci1 (by decide) tw177 dX1_sharedCells_54 rfl hp9 hb9 ?_
        refine aw_iload (pc := 57) C dX1_sharedCells_57 rfl ?_
        obtain ⟨⟨k9, hp9⟩, hw⟩ := hw
        refine aw_iald (pc := 59) C dX1_sharedCells_59 hp9 ?_
        refine aw_iconst (pc := 60) C dX1_sharedCells_60 (i := (2 : Int)) (by decide) ?_
        obtain ⟨k_69, hk_69, hw⟩ := jn_out hw
        have J_69 : ∀ (t1_69 : Int) (h_69 : AH), k_69 t1_69 h_69 → AW G p l e ({ frames := 3, cells := 0, slots := 0, locals := 65 } : Room) s m args below meth c 0 0 (MQ below (QG G (oI Q)) args s 0 0 (frA G)) 69 (eOf [(0, vR a0), (1, vI a1), (3, vI x3_12)]) [vI t1_69, vI x2_12] h_69 := by
          intro t1_69 h_69 hw
          rw [hk_69] at hw
          obtain ⟨hp9, hw⟩ := hw
          refine aw_iadd (pc := 69) C dX1_sharedCells_69 hp9 ?_
          refine aw_nmI (fun x2_70 e9 => ?_)
          have hw := hw x2_70 e9
          refine aw_istore_n (pc := 70) C dX1_sharedCells_70 rfl (by rw [hml]; decide) ?_
          refine aw_sub [(0, vR a0), (1, vI a1), (2, vI x2_70), (3, vI x3_12)] ⟨rfl, rfl, rfl, rfl, trivial⟩ ?_
          exact J_71 _ _ hw
        refine aw_icmp_ne (pc := 61) (tgt := 68) C dX1_sharedCells_61 (by decide) (fun hc9 => ?_) (fun hc9 => ?_)
        · have hw := hw.1 hc9
          refine aw_iconst (pc := 68) C dX1_sharedCells_68 (i := (0 : Int)) (by decide) ?_
          refine aw_sub [(0, vR a0), (1, vI a1), (3, vI x3_12)] ⟨rfl, rfl, rfl, trivial⟩ ?_
          exact J_69 _ _ hw
        · have hw := hw.2 hc9
          refine aw_iconst (pc := 64) C dX1_sharedCells_64 (i := (1 : Int)) (by decide) ?_
          refine aw_goto (pc := 65) (tgt := 69) C dX1_sharedCells_65 (by decide) ?_
          refine aw_sub [(0, vR a0), (1, vI a1), (3, vI x3_12)] ⟨rfl, rfl, rfl, trivial⟩ ?_
          exact J_69 _ _ hw
  refine aw_sub [(0, vR a0), (1, vI a1), (2, vI (0 : Int)), (3, vI (0 : Int))] ⟨rfl, rfl, rfl, rfl, trivial⟩ ?_
  exact L_12 n9 _ _ _ hi9
theorem dX1_piecesLeft_0 : decode cX1_piecesLeft 0 = .ok (.iconst 0, 1) := by decide +kernel
theorem dX1_piecesLeft_1 : decode cX1_piecesLeft 1 = .ok (.istore_n 2, 1) := by decide +kernel
theorem dX1_piecesLeft_2 : decode cX1_piecesLeft 2 = .ok (.iconst 0, 1) := by decide +kernel
theorem dX1_piecesLeft_3 : decode cX1_piecesLeft 3 = .ok (.istore_n 3, 1) := by decide +kernel
theorem dX1_piecesLeft_4 : decode cX1_piecesLeft 4 = .ok (.iload_n 3, 1) := by decide +kernel
theorem dX1_piecesLeft_5 : decode cX1_piecesLeft 5 = .ok (.aload_n 0, 1) := by decide +kernel
theorem dX1_piecesLeft_6 : decode cX1_piecesLeft 6 = .ok (.getfield 31, 3) := by decide +kernel
theorem dX1_piecesLeft_9 : decode cX1_piecesLeft 9 = .ok (.iconst 0, 1) := by decide +kernel
theorem dX1_piecesLeft_10 : decode cX1_piecesLeft 10 = .ok (.invokevirtual 65, 3) := by decide +kernel
theorem dX1_piecesLeft_13 : decode cX1_piecesLeft 13 = .ok (.getfield 69, 3) := by decide +kernel
theorem dX1_piecesLeft_16 : decode cX1_piecesLeft 16 = .ok (.if_icmp .ge 26, 3) := by decide +kernel
theorem dX1_piecesLeft_19 : decode cX1_piecesLeft 19 = .ok (.iload_n 2, 1) := by decide +kernel
theorem dX1_piecesLeft_20 : decode cX1_piecesLeft 20 = .ok (.aload_n 0, 1) := by decide +kernel
theorem dX1_piecesLeft_21 : decode cX1_piecesLeft 21 = .ok (.iload_n 3, 1) := by decide +kernel
theorem dX1_piecesLeft_22 : decode cX1_piecesLeft 22 = .ok (.iload_n 1, 1) := by decide +kernel
theorem dX1_piecesLeft_23 : decode cX1_piecesLeft 23 = .ok (.invokevirtual 128, 3) := by decide +kernel
theorem dX1_piecesLeft_26 : decode cX1_piecesLeft 26 = .ok (.ifCond .eq 7, 3) := by decide +kernel
theorem dX1_piecesLeft_29 : decode cX1_piecesLeft 29 = .ok (.iconst 0, 1) := by decide +kernel
theorem dX1_piecesLeft_30 : decode cX1_piecesLeft 30 = .ok (.goto 4, 3) := by decide +kernel
theorem dX1_piecesLeft_33 : decode cX1_piecesLeft 33 = .ok (.iconst 1, 1) := by decide +kernel
theorem dX1_piecesLeft_34 : decode cX1_piecesLeft 34 = .ok (.iadd, 1) := by decide +kernel
theorem dX1_piecesLeft_35 : decode cX1_piecesLeft 35 = .ok (.istore_n 2, 1) := by decide +kernel
theorem dX1_piecesLeft_36 : decode cX1_piecesLeft 36 = .ok (.iinc 3 1, 3) := by decide +kernel
theorem dX1_piecesLeft_39 : decode cX1_piecesLeft 39 = .ok (.goto (-35), 3) := by decide +kernel
theorem dX1_piecesLeft_42 : decode cX1_piecesLeft 42 = .ok (.iload_n 2, 1) := by decide +kernel
theorem dX1_piecesLeft_43 : decode cX1_piecesLeft 43 = .ok (.ireturn, 1) := by decide +kernel
theorem pd_X1_piecesLeft : (parseMethodDescriptor yX1_piecesLeft.desc).map (fun d => d.parameters.length) = some 1 := by decide +kernel
def w_X1_piecesLeft (zz : Nat → Nat) (a0 : Nat) (a1 : Int) (h : AH) (Q : Int → AH → Prop) : Prop := ∃ I_4 : Nat → Int → Int → AH → Prop, (∃ n, I_4 n (0 : Int) (0 : Int) h) ∧ ∀ (n_4 : Nat) (x2_4 : Int) (x3_4 : Int) (h_4 : AH), I_4 n_4 x2_4 x3_4 h_4 → (okA h_4 a0 1 ∧ ∃ b6 : Nat, hfR h_4 a0 2 = some b6 ∧ okA h_4 b6 4 ∧ w_X4_text zz b6 (0 : Int) h_4 (fun (r10 : Nat) (h10 : AH) => okA h10 r10 5 ∧ (((hfI h10 r10 2) ≤ x3_4) → Q x2_4 h10) ∧ ((¬ ((hfI h10 r10 2) ≤ x3_4)) → okA h10 a0 1 ∧ w_X1_isGone zz a0 x3_4 a1 h10 (fun (r23 : Int) (h23 : AH) => jn (fun (t1_34 : Int) (h_34 : AH) => inR (x2_4 + t1_34) ∧ ∀ x2_35 : Int, x2_35 = (x2_4 + t1_34) → inR (x3_4 + 1) ∧ ∀ x3_36 : Int, x3_36 = (x3_4 + 1) → ∃ m, m < n_4 ∧ I_4 m x2_35 x3_36 h_34) (fun k_34 : Int → AH → Prop => ((r23 = 0) → k_34 (1 : Int) h23) ∧ ((¬ (r23 = 0)) → k_34 (0 : Int) h23))))))
set_option maxRecDepth 100000 in
set_option maxHeartbeats 4000000 in
theorem met_X1_piecesLeft (G : GG) (l : Launch) : ∀ (As : List Value) (a0 : Nat) (a1 : Int) (h : AH) (Q : Int → AH → Prop), As.map ab = List.map some ([vR a0, vI a1] : List AV) → w_X1_piecesLeft G.2.2 a0 a1 h Q → Met l yX1_piecesLeft (.code yX1_piecesLeft cX1_piecesLeft 4 (some .int) :: xTb) ({ frames := 2, cells := 0, slots := 0, locals := 43 } : Room) (PcA G As h) (QG G (oI Q)) 0 0 (frA G) := by
  intro As a0 a1 h Q hA hw
  refine met_of hA (by decide) (Nat.le_of_ble_eq_true rfl) (fun p e s m args below meth c C hml hr hnm => ?_)
  unfold w_X1_piecesLeft at hw
  refine aw_iconst (pc := 0) C dX1_piecesLeft_0 (i := (0 : Int)) (by decide) ?_
  refine aw_istore_n (pc := 1) C dX1_piecesLeft_1 rfl (by rw [hml]; decide) ?_
  refine aw_iconst (pc := 2) C dX1_piecesLeft_2 (i := (0 : Int)) (by decide) ?_
  refine aw_istore_n (pc := 3) C dX1_piecesLeft_3 rfl (by rw [hml]; decide) ?_
  obtain ⟨I_4, ⟨n9, hi9⟩, hst9⟩ := hw
  have L_4 : ∀ (n_4 : Nat) (x2_4 : Int) (x3_4 : Int) (h_4 : AH), I_4 n_4 x2_4 x3_4 h_4 → AW G p l e ({ frames := 2, cells := 0, slots := 0, locals := 43 } : Room) s m args below meth c 0 0 (MQ below (QG G (oI Q)) args s 0 0 (frA G)) 4 (eOf [(0, vR a0), (1, vI a1), (2, vI x2_4), (3, vI x3_4)]) [] h_4 := by
    intro n_4
    induction n_4 using Nat.strongRecOn with
    | _ n_4 ih_4 =>
    intro x2_4 x3_4 h_4 hi9
    have hw := hst9 n_4 x2_4 x3_4 h_4 hi9
    refine aw_iload_n (pc := 4) C dX1_piecesLeft_4 rfl rfl ?_
    refine aw_aload_n (pc := 5) C dX1_piecesLeft_5 rfl rfl ?_
    obtain ⟨hp9, b6, hb9, hw⟩ := hw
    refine aw_getR (pc := 6) C (ci := 1) (k := 2) ci1 (by decide) tw172 dX1_piecesLeft_6 rfl hp9 hb9 ?_
    refine aw_iconst (pc := 9) C dX1_piecesLeft_9 (i := (0 : Int)) (by decide) ?_
    obtain ⟨hp9, hw⟩ := hw
    refine aw_callV (pc := 10) (as := [vI (0 : Int)]) C ci4 (fun As hA => met_X4_text G l As b6 (0 : Int) _ _ hA hw) tw414 tw333 tw334 tw2 tw335 ⟨rfl, rfl⟩ ⟨rfl, by decide, by decide, pd_X4_text⟩ ⟨Nat.le_of_ble_eq_true rfl, Nat.le_of_ble_eq_true rfl⟩ ⟨Nat.zero_le _, Nat.zero_le _⟩ (Nat.le_of_ble_eq_true rfl) dX1_piecesLeft_10 rfl hp9 (fun v9 h10 hq9 => ?_)
    obtain ⟨r10, rfl, hw⟩ := hq9
    obtain ⟨hp9, hw⟩ := hw
    refine aw_getI (pc := 13) C (ci := 5) (k := 2) ci5 (by decide) tw46 dX1_piecesLeft_13 rfl hp9 ?_
    refine aw_icmp_ge (pc := 16) (tgt := 42) C dX1_piecesLeft_16 (by decide) (fun hc9 => ?_) (fun hc9 => ?_)
    · have hw := hw.1 hc9
      refine aw_iload_n (pc := 42) C dX1_piecesLeft_42 rfl rfl ?_
      exact aw_iret (pc := 43) C hr dX1_piecesLeft_43 ⟨Nat.le_of_ble_eq_true rfl, Nat.le_of_ble_eq_true rfl⟩ ⟨_, rfl, hw⟩
    · have hw := hw.2 hc9
      refine aw_iload_n (pc := 19) C dX1_piecesLeft_19 rfl rfl ?_
      refine aw_aload_n (pc := 20) C dX1_piecesLeft_20 rfl rfl ?_
      refine aw_iload_n (pc := 21) C dX1_piecesLeft_21 rfl rfl ?_
      refine aw_iload_n (pc := 22) C dX1_piecesLeft_22 rfl rfl ?_
      obtain ⟨hp9, hw⟩ := hw
      refine aw_callV (pc := 23) (as := [vI x3_4, vI a1]) C ci1 (fun As hA => met_X1_isGone G l As a0 x3_4 a1 _ _ hA hw) tw519 tw521 (tbp 21 (n := 9) (by decide +kernel)) tw6 tw522 ⟨rfl, rfl⟩ ⟨rfl, by decide, by decide, pd_X1_isGone⟩ ⟨Nat.le_of_ble_eq_true rfl, Nat.le_of_ble_eq_true rfl⟩ ⟨Nat.zero_le _, Nat.zero_le _⟩ (Nat.le_of_ble_eq_true rfl) dX1_piecesLeft_23 rfl hp9 (fun v9 h23 hq9 => ?_)
      obtain ⟨r23, rfl, hw⟩ := hq9
      obtain ⟨k_34, hk_34, hw⟩ := jn_out hw
      have J_34 : ∀ (t1_34 : Int) (h_34 : AH), k_34 t1_34 h_34 → AW G p l e ({ frames := 2, cells := 0, slots := 0, locals := 43 } : Room) s m args below meth c 0 0 (MQ below (QG G (oI Q)) args s 0 0 (frA G)) 34 (eOf [(0, vR a0), (1, vI a1), (3, vI x3_4)]) [vI t1_34, vI x2_4] h_34 := by
        intro t1_34 h_34 hw
        rw [hk_34] at hw
        obtain ⟨hp9, hw⟩ := hw
        refine aw_iadd (pc := 34) C dX1_piecesLeft_34 hp9 ?_
        refine aw_nmI (fun x2_35 e9 => ?_)
        have hw := hw x2_35 e9
        refine aw_istore_n (pc := 35) C dX1_piecesLeft_35 rfl (by rw [hml]; decide) ?_
        obtain ⟨hp9, hw⟩ := hw
        refine aw_iincN (pc := 36) C dX1_piecesLeft_36 (k := 1) (by decide) rfl (by rw [hml]; decide) hp9 (fun x3_36 e9 => ?_)
        have hw := hw x3_36 e9
        refine aw_goto (pc := 39) (tgt := 4) C dX1_piecesLeft_39 (by decide) ?_
        obtain ⟨m9, hm9, hw⟩ := hw
        refine aw_sub [(0, vR a0), (1, vI a1), (2, vI x2_35), (3, vI x3_36)] ⟨rfl, rfl, rfl, rfl, trivial⟩ ?_
        exact ih_4 m9 hm9 _ _ _ hw
      refine aw_if_eq (pc := 26) (tgt := 33) C dX1_piecesLeft_26 (by decide) (fun hc9 => ?_) (fun hc9 => ?_)
      · have hw := hw.1 hc9
        refine aw_iconst (pc := 33) C dX1_piecesLeft_33 (i := (1 : Int)) (by decide) ?_
        refine aw_sub [(0, vR a0), (1, vI a1), (3, vI x3_4)] ⟨rfl, rfl, rfl, trivial⟩ ?_
        exact J_34 _ _ hw
      · have hw := hw.2 hc9
        refine aw_iconst (pc := 29) C dX1_piecesLeft_29 (i := (0 : Int)) (by decide) ?_
        refine aw_goto (pc := 30) (tgt := 34) C dX1_piecesLeft_30 (by decide) ?_
        refine aw_sub [(0, vR a0), (1, vI a1), (3, vI x3_4)] ⟨rfl, rfl, rfl, trivial⟩ ?_
        exact J_34 _ _ hw
  refine aw_sub [(0, vR a0), (1, vI a1), (2, vI (0 : Int)), (3, vI (0 : Int))] ⟨rfl, rfl, rfl, rfl, trivial⟩ ?_
  exact L_4 n9 _ _ _ hi9
theorem dX1_frameProperty_0 : decode cX1_frameProperty 0 = .ok (.iload_n 2, 1) := by decide +kernel
theorem dX1_frameProperty_1 : decode cX1_frameProperty 1 = .ok (.tableswitch 71 0 3 #[31, 37, 51, 65], 31) := by decide +kernel
theorem dX1_frameProperty_32 : decode cX1_frameProperty 32 = .ok (.aload_n 0, 1) := by decide +kernel
theorem dX1_frameProperty_33 : decode cX1_frameProperty 33 = .ok (.iload_n 1, 1) := by decide +kernel
theorem dX1_frameProperty_34 : decode cX1_frameProperty 34 = .ok (.invokevirtual 142, 3) := by decide +kernel
theorem dX1_frameProperty_37 : decode cX1_frameProperty 37 = .ok (.ireturn, 1) := by decide +kernel
theorem dX1_frameProperty_38 : decode cX1_frameProperty 38 = .ok (.iload_n 1, 1) := by decide +kernel
theorem dX1_frameProperty_39 : decode cX1_frameProperty 39 = .ok (.ifCond .ne 7, 3) := by decide +kernel
theorem dX1_frameProperty_42 : decode cX1_frameProperty 42 = .ok (.iconst 0, 1) := by decide +kernel
theorem dX1_frameProperty_43 : decode cX1_frameProperty 43 = .ok (.goto 8, 3) := by decide +kernel
theorem dX1_frameProperty_46 : decode cX1_frameProperty 46 = .ok (.aload_n 0, 1) := by decide +kernel
theorem dX1_frameProperty_47 : decode cX1_frameProperty 47 = .ok (.iload_n 1, 1) := by decide +kernel
theorem dX1_frameProperty_48 : decode cX1_frameProperty 48 = .ok (.invokevirtual 145, 3) := by decide +kernel
theorem dX1_frameProperty_51 : decode cX1_frameProperty 51 = .ok (.ireturn, 1) := by decide +kernel
theorem dX1_frameProperty_52 : decode cX1_frameProperty 52 = .ok (.aload_n 0, 1) := by decide +kernel
theorem dX1_frameProperty_53 : decode cX1_frameProperty 53 = .ok (.getfield 49, 3) := by decide +kernel
theorem dX1_frameProperty_56 : decode cX1_frameProperty 56 = .ok (.iload_n 1, 1) := by decide +kernel
theorem dX1_frameProperty_57 : decode cX1_frameProperty 57 = .ok (.aload_n 0, 1) := by decide +kernel
theorem dX1_frameProperty_58 : decode cX1_frameProperty 58 = .ok (.getfield 27, 3) := by decide +kernel
theorem dX1_frameProperty_61 : decode cX1_frameProperty 61 = .ok (.isub, 1) := by decide +kernel
theorem dX1_frameProperty_62 : decode cX1_frameProperty 62 = .ok (.invokevirtual 148, 3) := by decide +kernel
theorem dX1_frameProperty_65 : decode cX1_frameProperty 65 = .ok (.ireturn, 1) := by decide +kernel
theorem dX1_frameProperty_66 : decode cX1_frameProperty 66 = .ok (.aload_n 0, 1) := by decide +kernel
theorem dX1_frameProperty_67 : decode cX1_frameProperty 67 = .ok (.iload_n 1, 1) := by decide +kernel
theorem dX1_frameProperty_68 : decode cX1_frameProperty 68 = .ok (.invokevirtual 151, 3) := by decide +kernel
theorem dX1_frameProperty_71 : decode cX1_frameProperty 71 = .ok (.ireturn, 1) := by decide +kernel
theorem dX1_frameProperty_72 : decode cX1_frameProperty 72 = .ok (.aload_n 0, 1) := by decide +kernel
theorem dX1_frameProperty_73 : decode cX1_frameProperty 73 = .ok (.iload_n 1, 1) := by decide +kernel
theorem dX1_frameProperty_74 : decode cX1_frameProperty 74 = .ok (.invokevirtual 154, 3) := by decide +kernel
theorem dX1_frameProperty_77 : decode cX1_frameProperty 77 = .ok (.ireturn, 1) := by decide +kernel
theorem pd_X1_frameProperty : (parseMethodDescriptor yX1_frameProperty.desc).map (fun d => d.parameters.length) = some 2 := by decide +kernel
def w_X1_frameProperty (zz : Nat → Nat) (a0 : Nat) (a1 : Int) (a2 : Int) (h : AH) (Q : Int → AH → Prop) : Prop := (a2 = 0 → okA h a0 1 ∧ w_X1_cellsWithLetters zz a0 a1 h (fun (r34 : Int) (h34 : AH) => Q r34 h34)) ∧ (a2 = 1 → jn (fun (t0_51 : Int) (h_51 : AH) => Q t0_51 h_51) (fun k_51 : Int → AH → Prop => ((¬ a1 = 0) → okA h a0 1 ∧ w_X1_cellsThatDiffer zz a0 a1 h (fun (r48 : Int) (h48 : AH) => k_51 r48 h48)) ∧ ((a1 = 0) → k_51 (0 : Int) h))) ∧ (a2 = 2 → okA h a0 1 ∧ ∃ b53 : Nat, hfR h a0 1 = some b53 ∧ okA h a0 1 ∧ inR (a1 - (hfI h a0 8)) ∧ okA h b53 2 ∧ w_X2_heldIn zz b53 (a1 - (hfI h a0 8)) h (fun (r62 : Int) (h62 : AH) => Q r62 h62)) ∧ (a2 = 3 → okA h a0 1 ∧ w_X1_sharedCells zz a0 a1 h (fun (r68 : Int) (h68 : AH) => Q r68 h68)) ∧ ((a2 < 0 ∨ 3 < a2) → okA h a0 1 ∧ w_X1_piecesLeft zz a0 a1 h (fun (r74 : Int) (h74 : AH) => Q r74 h74))
set_option maxRecDepth 100000 in
set_option maxHeartbeats 4000000 in
theorem met_X1_frameProperty (G : GG) (l : Launch) : ∀ (As : List Value) (a0 : Nat) (a1 : Int) (a2 : Int) (h : AH) (Q : Int → AH → Prop), As.map ab = List.map some ([vR a0, vI a1, vI a2] : List AV) → w_X1_frameProperty G.2.2 a0 a1 a2 h Q → Met l yX1_frameProperty (.code yX1_frameProperty cX1_frameProperty 3 (some .int) :: xTb) ({ frames := 5, cells := 0, slots := 0, locals := 114 } : Room) (PcA G As h) (QG G (oI Q)) 0 0 (frA G) := by
  intro As a0 a1 a2 h Q hA hw
  refine met_of hA (by decide) (Nat.le_of_ble_eq_true rfl) (fun p e s m args below meth c C hml hr hnm => ?_)
  unfold w_X1_frameProperty at hw
  refine aw_iload_n (pc := 0) C dX1_frameProperty_0 rfl rfl ?_
  have hcs9 : a2 = 0 ∨ a2 = 1 ∨ a2 = 2 ∨ a2 = 3 ∨ (a2 < 0 ∨ 3 < a2) := by omega
  rcases hcs9 with hc9 | hc9 | hc9 | hc9 | hc9
  · have hw := hw.1 hc9
    refine aw_tableIn (pc := 1) (off := 31) (tgt := 32) C dX1_frameProperty_1 (by omega) (by omega) (by rw [hc9]; rfl) (by decide) ?_
    refine aw_aload_n (pc := 32) C dX1_frameProperty_32 rfl rfl ?_
    refine aw_iload_n (pc := 33) C dX1_frameProperty_33 rfl rfl ?_
    obtain ⟨hp9, hw⟩ := hw
    refine aw_callV (pc := 34) (as := [vI a1]) C ci1 (fun As hA => met_X1_cellsWithLetters G l As a0 a1 _ _ hA hw) tw565 tw567 (tbp 25 (n := 9) (by decide +kernel)) tw6 tw568 ⟨rfl, rfl⟩ ⟨rfl, by decide, by decide, pd_X1_cellsWithLetters⟩ ⟨Nat.le_of_ble_eq_true rfl, Nat.le_of_ble_eq_true rfl⟩ ⟨Nat.zero_le _, Nat.zero_le _⟩ (Nat.le_of_ble_eq_true rfl) dX1_frameProperty_34 rfl hp9 (fun v9 h34 hq9 => ?_)
    obtain ⟨r34, rfl, hw⟩ := hq9
    exact aw_iret (pc := 37) C hr dX1_frameProperty_37 ⟨Nat.le_of_ble_eq_true rfl, Nat.le_of_ble_eq_true rfl⟩ ⟨_, rfl, hw⟩
  · have hw := hw.2.1 hc9
    refine aw_tableIn (pc := 1) (off := 37) (tgt := 38) C dX1_frameProperty_1 (by omega) (by omega) (by rw [hc9]; rfl) (by decide) ?_
    refine aw_iload_n (pc := 38) C dX1_frameProperty_38 rfl rfl ?_
    obtain ⟨k_51, hk_51, hw⟩ := jn_out hw
    have J_51 : ∀ (t0_51 : Int) (h_51 : AH), k_51 t0_51 h_51 → AW G p l e ({ frames := 5, cells := 0, slots := 0, locals := 114 } : Room) s m args below meth c 0 0 (MQ below (QG G (oI Q)) args s 0 0 (frA G)) 51 (eOf []) [vI t0_51] h_51 := by
      intro t0_51 h_51 hw
      rw [hk_51] at hw
      exact aw_iret (pc := 51) C hr dX1_frameProperty_51 ⟨Nat.le_of_ble_eq_true rfl, Nat.le_of_ble_eq_true rfl⟩ ⟨_, rfl, hw⟩
    refine aw_if_ne (pc := 39) (tgt := 46) C dX1_frameProperty_39 (by decide) (fun hc9 => ?_) (fun hc9 => ?_)
    · have hw := hw.1 hc9
      refine aw_aload_n (pc := 46) C dX1_frameProperty_46 rfl rfl ?_
      refine aw_iload_n (pc := 47) C dX1_frameProperty_47 rfl rfl ?_
      obtain ⟨hp9, hw⟩ := hw
      refine aw_callV (pc := 48) (as := [vI a1]) C ci1 (fun As hA => met_X1_cellsThatDiffer G l As a0 a1 _ _ hA hw) tw569 tw571 (tbp 26 (n := 9) (by decide +kernel)) tw6 tw572 ⟨rfl, rfl⟩ ⟨rfl, by decide, by decide, pd_X1_cellsThatDiffer⟩ ⟨Nat.le_of_ble_eq_true rfl, Nat.le_of_ble_eq_true rfl⟩ ⟨Nat.zero_le _, Nat.zero_le _⟩ (Nat.le_of_ble_eq_true rfl) dX1_frameProperty_48 rfl hp9 (fun v9 h48 hq9 => ?_)
      obtain ⟨r48, rfl, hw⟩ := hq9
      refine aw_sub [] trivial ?_
      exact J_51 _ _ hw
    · have hw := hw.2 hc9
      refine aw_iconst (pc := 42) C dX1_frameProperty_42 (i := (0 : Int)) (by decide) ?_
      refine aw_goto (pc := 43) (tgt := 51) C dX1_frameProperty_43 (by decide) ?_
      refine aw_sub [] trivial ?_
      exact J_51 _ _ hw
  · have hw := hw.2.2.1 hc9
    refine aw_tableIn (pc := 1) (off := 51) (tgt := 52) C dX1_frameProperty_1 (by omega) (by omega) (by rw [hc9]; rfl) (by decide) ?_
    refine aw_aload_n (pc := 52) C dX1_frameProperty_52 rfl rfl ?_
    obtain ⟨hp9, b53, hb9, hw⟩ := hw
    refine aw_getR (pc := 53) C (ci := 1) (k := 1) ci1 (by decide) tw171 dX1_frameProperty_53 rfl hp9 hb9 ?_
    refine aw_iload_n (pc := 56) C dX1_frameProperty_56 rfl rfl ?_
    refine aw_aload_n (pc := 57) C dX1_frameProperty_57 rfl rfl ?_
    obtain ⟨hp9, hw⟩ := hw
    refine aw_getI (pc := 58) C (ci := 1) (k := 8) ci1 (by decide) tw178 dX1_frameProperty_58 rfl hp9 ?_
    obtain ⟨hp9, hw⟩ := hw
    refine aw_isub (pc := 61) C dX1_frameProperty_61 hp9 ?_
    obtain ⟨hp9, hw⟩ := hw
    refine aw_callV (pc := 62) (as := [vI (a1 - (hfI h a0 8))]) C ci2 (fun As hA => met_X2_heldIn G l As b53 (a1 - (hfI h a0 8)) _ _ hA hw) tw573 tw574 tw575 tw8 tw576 ⟨rfl, rfl⟩ ⟨rfl, by decide, by decide, pd_X2_heldIn⟩ ⟨Nat.le_of_ble_eq_true rfl, Nat.le_of_ble_eq_true rfl⟩ ⟨Nat.zero_le _, Nat.zero_le _⟩ (Nat.le_of_ble_eq_true rfl) dX1_frameProperty_62 rfl hp9 (fun v9 h62 hq9 => ?_)
    obtain ⟨r62, rfl, hw⟩ := hq9
    exact aw_iret (pc := 65) C hr dX1_frameProperty_65 ⟨Nat.le_of_ble_eq_true rfl, Nat.le_of_ble_eq_true rfl⟩ ⟨_, rfl, hw⟩
  · have hw := hw.2.2.2.1 hc9
    refine aw_tableIn (pc := 1) (off := 65) (tgt := 66) C dX1_frameProperty_1 (by omega) (by omega) (by rw [hc9]; rfl) (by decide) ?_
    refine aw_aload_n (pc := 66) C dX1_frameProperty_66 rfl rfl ?_
    refine aw_iload_n (pc := 67) C dX1_frameProperty_67 rfl rfl ?_
    obtain ⟨hp9, hw⟩ := hw
    refine aw_callV (pc := 68) (as := [vI a1]) C ci1 (fun As hA => met_X1_sharedCells G l As a0 a1 _ _ hA hw) tw577 tw579 (tbp 27 (n := 9) (by decide +kernel)) tw6 tw580 ⟨rfl, rfl⟩ ⟨rfl, by decide, by decide, pd_X1_sharedCells⟩ ⟨Nat.le_of_ble_eq_true rfl, Nat.le_of_ble_eq_true rfl⟩ ⟨Nat.zero_le _, Nat.zero_le _⟩ (Nat.le_of_ble_eq_true rfl) dX1_frameProperty_68 rfl hp9 (fun v9 h68 hq9 => ?_)
    obtain ⟨r68, rfl, hw⟩ := hq9
    exact aw_iret (pc := 71) C hr dX1_frameProperty_71 ⟨Nat.le_of_ble_eq_true rfl, Nat.le_of_ble_eq_true rfl⟩ ⟨_, rfl, hw⟩
  · have hw := hw.2.2.2.2 hc9
    refine aw_tableOut (pc := 1) (tgt := 72) C dX1_frameProperty_1 hc9 (by decide) ?_
    refine aw_aload_n (pc := 72) C dX1_frameProperty_72 rfl rfl ?_
    refine aw_iload_n (pc := 73) C dX1_frameProperty_73 rfl rfl ?_
    obtain ⟨hp9, hw⟩ := hw
    refine aw_callV (pc := 74) (as := [vI a1]) C ci1 (fun As hA => met_X1_piecesLeft G l As a0 a1 _ _ hA hw) tw581 tw583 (tbp 28 (n := 9) (by decide +kernel)) tw6 tw584 ⟨rfl, rfl⟩ ⟨rfl, by decide, by decide, pd_X1_piecesLeft⟩ ⟨Nat.le_of_ble_eq_true rfl, Nat.le_of_ble_eq_true rfl⟩ ⟨Nat.zero_le _, Nat.zero_le _⟩ (Nat.le_of_ble_eq_true rfl) dX1_frameProperty_74 rfl hp9 (fun v9 h74 hq9 => ?_)
    obtain ⟨r74, rfl, hw⟩ := hq9
    exact aw_iret (pc := 77) C hr dX1_frameProperty_77 ⟨Nat.le_of_ble_eq_true rfl, Nat.le_of_ble_eq_true rfl⟩ ⟨_, rfl, hw⟩
