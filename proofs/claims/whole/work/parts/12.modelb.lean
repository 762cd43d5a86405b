/-! THE METHODS, BY PROGRAM (wip/whole/gen.py): what each means (w_..), and its contract (met_..) -/
theorem dX7_begin_0 : decode cX7_begin 0 = .ok (.aload_n 0, 1) := by decide +kernel
theorem dX7_begin_1 : decode cX7_begin 1 = .ok (.iconst 0, 1) := by decide +kernel
theorem dX7_begin_2 : decode cX7_begin 2 = .ok (.putfield 61, 3) := by decide +kernel
theorem dX7_begin_5 : decode cX7_begin 5 = .ok (.aload_n 0, 1) := by decide +kernel
theorem dX7_begin_6 : decode cX7_begin 6 = .ok (.invokevirtual 146, 3) := by decide +kernel
theorem dX7_begin_9 : decode cX7_begin 9 = .ok (.aload_n 0, 1) := by decide +kernel
theorem dX7_begin_10 : decode cX7_begin 10 = .ok (.iconst 0, 1) := by decide +kernel
theorem dX7_begin_11 : decode cX7_begin 11 = .ok (.invokevirtual 149, 3) := by decide +kernel
theorem dX7_begin_14 : decode cX7_begin 14 = .ok (.aload_n 0, 1) := by decide +kernel
theorem dX7_begin_15 : decode cX7_begin 15 = .ok (.iconst 1, 1) := by decide +kernel
theorem dX7_begin_16 : decode cX7_begin 16 = .ok (.invokevirtual 149, 3) := by decide +kernel
theorem dX7_begin_19 : decode cX7_begin 19 = .ok (.iadd, 1) := by decide +kernel
theorem dX7_begin_20 : decode cX7_begin 20 = .ok (.istore_n 1, 1) := by decide +kernel
theorem dX7_begin_21 : decode cX7_begin 21 = .ok (.aload_n 0, 1) := by decide +kernel
theorem dX7_begin_22 : decode cX7_begin 22 = .ok (.invokevirtual 58, 3) := by decide +kernel
theorem dX7_begin_25 : decode cX7_begin 25 = .ok (.iload_n 1, 1) := by decide +kernel
theorem dX7_begin_26 : decode cX7_begin 26 = .ok (.ireturn, 1) := by decide +kernel
theorem pd_X7_begin : (parseMethodDescriptor yX7_begin.desc).map (fun d => d.parameters.length) = some 0 := by decide +kernel
def w_X7_begin (zz : Nat → Nat) (a0 : Nat) (h : AH) (Q : Int → AH → Prop) : Prop := okP h a0 7 ∧ ∀ h2 : AH, h2 = sfI h a0 0 (0 : Int) → okA h2 a0 7 ∧ w_X7_save zz a0 h2 (fun  (h6 : AH) => okA h6 a0 7 ∧ w_X7_lettersOf zz a0 (0 : Int) h6 (fun (r11 : Int) (h11 : AH) => okA h11 a0 7 ∧ w_X7_lettersOf zz a0 (1 : Int) h11 (fun (r16 : Int) (h16 : AH) => inR (r11 + r16) ∧ ∀ x1_20 : Int, x1_20 = (r11 + r16) → okA h16 a0 7 ∧ w_X7_fresh zz a0 h16 (fun  (h22 : AH) => Q x1_20 h22))))
set_option maxRecDepth 100000 in
set_option maxHeartbeats 4000000 in
theorem met_X7_begin (G : GG) (l : Launch) : ∀ (As : List Value) (a0 : Nat) (h : AH) (Q : Int → AH → Prop), As.map ab = List.map some ([vR a0] : List AV) → w_X7_begin G.2.2 a0 h Q → Met l yX7_begin (.code yX7_begin cX7_begin 2 (some .int) :: xTb) ({ frames := 1, cells := 0, slots := 0, locals := 23 } : Room) (PcA G As h) (QG G (oI Q)) 0 0 (frA G) := by
  intro As a0 h Q hA hw
  refine met_of hA (by decide) (Nat.le_of_ble_eq_true rfl) (fun p e s m args below meth c C hml hr hnm => ?_)
  unfold w_X7_begin at hw
  refine aw_aload_n (pc := 0) C dX7_begin_0 rfl rfl ?_
  refine aw_iconst (pc := 1) C dX7_begin_1 (i := (0 : Int)) (by decide) ?_
  obtain ⟨hp9, hw⟩ := hw
  refine aw_putI (pc := 2) C (ci := 7) (k := 0) ci7 (by decide) tw792 (Or.inl rfl) dX7_begin_2 rfl hp9 (aw_nmH (fun h2 e9 => ?_))
  have hw := hw h2 e9
  refine aw_aload_n (pc := 5) C dX7_begin_5 rfl rfl ?_
  obtain ⟨hp9, hw⟩ := hw
  refine aw_callV (pc := 6) (as := []) C ci7 (fun As hA => met_X7_save G l As a0 _ _ hA hw) tw868 tw870 (tbp 35 (n := 21) (by decide +kernel)) tw10 tw871 ⟨rfl, rfl⟩ ⟨rfl, by decide, by decide, pd_X7_save⟩ ⟨Nat.le_of_ble_eq_true rfl, Nat.le_of_ble_eq_true rfl⟩ ⟨Nat.zero_le _, Nat.zero_le _⟩ (Nat.le_of_ble_eq_true rfl) dX7_begin_6 rfl hp9 (fun v9 h6 hq9 => ?_)
  obtain ⟨rfl, hw⟩ := hq9
  refine aw_aload_n (pc := 9) C dX7_begin_9 rfl rfl ?_
  refine aw_iconst (pc := 10) C dX7_begin_10 (i := (0 : Int)) (by decide) ?_
  obtain ⟨hp9, hw⟩ := hw
  refine aw_callV (pc := 11) (as := [vI (0 : Int)]) C ci7 (fun As hA => met_X7_lettersOf G l As a0 (0 : Int) _ _ hA hw) tw872 tw874 (tbp 36 (n := 21) (by decide +kernel)) tw10 tw875 ⟨rfl, rfl⟩ ⟨rfl, by decide, by decide, pd_X7_lettersOf⟩ ⟨Nat.le_of_ble_eq_true rfl, Nat.le_of_ble_eq_true rfl⟩ ⟨Nat.zero_le _, Nat.zero_le _⟩ (Nat.le_of_ble_eq_true rfl) dX7_begin_11 rfl hp9 (fun v9 h11 hq9 => ?_)
  obtain ⟨r11, rfl, hw⟩ := hq9
  refine aw_aload_n (pc := 14) C dX7_begin_14 rfl rfl ?_
  refine aw_iconst (pc := 15) C dX7_begin_15 (i := (1 : Int)) (by decide) ?_
  obtain ⟨hp9, hw⟩ := hw
  refine aw_callV (pc := 16) (as := [vI (1 : Int)]) C ci7 (fun As hA => met_X7_lettersOf G l As a0 (1 : Int) _ _ hA hw) tw872 tw874 (tbp 36 (n := 21) (by decide +kernel)) tw10 tw875 ⟨rfl, rfl⟩ ⟨rfl, by decide, by decide, pd_X7_lettersOf⟩ ⟨Nat.le_of_ble_eq_true rfl, Nat.le_of_ble_eq_true rfl⟩ ⟨Nat.zero_le _, Nat.zero_le _⟩ (Nat.le_of_ble_eq_true rfl) dX7_begin_16 rfl hp9 (fun v9 h16 hq9 => ?_)
  obtain ⟨r16, rfl, hw⟩ := hq9
  obtain ⟨hp9, hw⟩ := hw
  refine aw_iadd (pc := 19) C dX7_begin_19 hp9 ?_
  refine aw_nmI (fun x1_20 e9 => ?_)
  have hw := hw x1_20 e9
  refine aw_istore_n (pc := 20) C dX7_begin_20 rfl (by rw [hml]; decide) ?_
  refine aw_aload_n (pc := 21) C dX7_begin_21 rfl rfl ?_
  obtain ⟨hp9, hw⟩ := hw
  refine aw_callV (pc := 22) (as := []) C ci7 (fun As hA => met_X7_fresh G l As a0 _ _ hA hw) tw788 tw790 (tbp 34 (n := 21) (by decide +kernel)) tw10 tw791 ⟨rfl, rfl⟩ ⟨rfl, by decide, by decide, pd_X7_fresh⟩ ⟨Nat.le_of_ble_eq_true rfl, Nat.le_of_ble_eq_true rfl⟩ ⟨Nat.zero_le _, Nat.zero_le _⟩ (Nat.le_of_ble_eq_true rfl) dX7_begin_22 rfl hp9 (fun v9 h22 hq9 => ?_)
  obtain ⟨rfl, hw⟩ := hq9
  refine aw_iload_n (pc := 25) C dX7_begin_25 rfl rfl ?_
  exact aw_iret (pc := 26) C hr dX7_begin_26 ⟨Nat.le_of_ble_eq_true rfl, Nat.le_of_ble_eq_true rfl⟩ ⟨_, rfl, hw⟩
theorem dX7_isValue_0 : decode cX7_isValue 0 = .ok (.iload_n 0, 1) := by decide +kernel
theorem dX7_isValue_1 : decode cX7_isValue 1 = .ok (.tableswitch 78 0 5 #[39, 47, 47, 56, 63, 70], 39) := by decide +kernel
theorem dX7_isValue_40 : decode cX7_isValue 40 = .ok (.iload_n 1, 1) := by decide +kernel
theorem dX7_isValue_41 : decode cX7_isValue 41 = .ok (.iconst 1, 1) := by decide +kernel
theorem dX7_isValue_42 : decode cX7_isValue 42 = .ok (.bipush 9, 2) := by decide +kernel
theorem dX7_isValue_44 : decode cX7_isValue 44 = .ok (.invokestatic 65, 3) := by decide +kernel
theorem dX7_isValue_47 : decode cX7_isValue 47 = .ok (.ireturn, 1) := by decide +kernel
theorem dX7_isValue_48 : decode cX7_isValue 48 = .ok (.iload_n 1, 1) := by decide +kernel
theorem dX7_isValue_49 : decode cX7_isValue 49 = .ok (.iconst 0, 1) := by decide +kernel
theorem dX7_isValue_50 : decode cX7_isValue 50 = .ok (.sipush 200, 3) := by decide +kernel
theorem dX7_isValue_53 : decode cX7_isValue 53 = .ok (.invokestatic 65, 3) := by decide +kernel
theorem dX7_isValue_56 : decode cX7_isValue 56 = .ok (.ireturn, 1) := by decide +kernel
theorem dX7_isValue_57 : decode cX7_isValue 57 = .ok (.iload_n 1, 1) := by decide +kernel
theorem dX7_isValue_58 : decode cX7_isValue 58 = .ok (.iconst 0, 1) := by decide +kernel
theorem dX7_isValue_59 : decode cX7_isValue 59 = .ok (.iconst 1, 1) := by decide +kernel
theorem dX7_isValue_60 : decode cX7_isValue 60 = .ok (.invokestatic 65, 3) := by decide +kernel
theorem dX7_isValue_63 : decode cX7_isValue 63 = .ok (.ireturn, 1) := by decide +kernel
theorem dX7_isValue_64 : decode cX7_isValue 64 = .ok (.iload_n 1, 1) := by decide +kernel
theorem dX7_isValue_65 : decode cX7_isValue 65 = .ok (.iconst 0, 1) := by decide +kernel
theorem dX7_isValue_66 : decode cX7_isValue 66 = .ok (.iconst 2, 1) := by decide +kernel
theorem dX7_isValue_67 : decode cX7_isValue 67 = .ok (.invokestatic 65, 3) := by decide +kernel
theorem dX7_isValue_70 : decode cX7_isValue 70 = .ok (.ireturn, 1) := by decide +kernel
theorem dX7_isValue_71 : decode cX7_isValue 71 = .ok (.iload_n 1, 1) := by decide +kernel
theorem dX7_isValue_72 : decode cX7_isValue 72 = .ok (.iconst 0, 1) := by decide +kernel
theorem dX7_isValue_73 : decode cX7_isValue 73 = .ok (.bipush 9, 2) := by decide +kernel
theorem dX7_isValue_75 : decode cX7_isValue 75 = .ok (.invokestatic 65, 3) := by decide +kernel
theorem dX7_isValue_78 : decode cX7_isValue 78 = .ok (.ireturn, 1) := by decide +kernel
theorem dX7_isValue_79 : decode cX7_isValue 79 = .ok (.iload_n 1, 1) := by decide +kernel
theorem dX7_isValue_80 : decode cX7_isValue 80 = .ok (.iconst 0, 1) := by decide +kernel
theorem dX7_isValue_81 : decode cX7_isValue 81 = .ok (.bipush 20, 2) := by decide +kernel
theorem dX7_isValue_83 : decode cX7_isValue 83 = .ok (.invokestatic 65, 3) := by decide +kernel
theorem dX7_isValue_86 : decode cX7_isValue 86 = .ok (.ireturn, 1) := by decide +kernel
theorem pd_X7_isValue : (parseMethodDescriptor yX7_isValue.desc).map (fun d => d.parameters.length) = some 2 := by decide +kernel
def w_X7_isValue (zz : Nat → Nat) (a0 : Int) (a1 : Int) (h : AH) (Q : Int → AH → Prop) : Prop := (a0 = 0 → w_X7_within zz a1 (1 : Int) (9 : Int) h (fun (r44 : Int) (h44 : AH) => (r44 = 0 ∨ r44 = 1) ∧ Q r44 h44)) ∧ (a0 = 1 → w_X7_within zz a1 (0 : Int) (200 : Int) h (fun (r53 : Int) (h53 : AH) => (r53 = 0 ∨ r53 = 1) ∧ Q r53 h53)) ∧ (a0 = 2 → w_X7_within zz a1 (0 : Int) (200 : Int) h (fun (r53 : Int) (h53 : AH) => (r53 = 0 ∨ r53 = 1) ∧ Q r53 h53)) ∧ (a0 = 3 → w_X7_within zz a1 (0 : Int) (1 : Int) h (fun (r60 : Int) (h60 : AH) => (r60 = 0 ∨ r60 = 1) ∧ Q r60 h60)) ∧ (a0 = 4 → w_X7_within zz a1 (0 : Int) (2 : Int) h (fun (r67 : Int) (h67 : AH) => (r67 = 0 ∨ r67 = 1) ∧ Q r67 h67)) ∧ (a0 = 5 → w_X7_within zz a1 (0 : Int) (9 : Int) h (fun (r75 : Int) (h75 : AH) => (r75 = 0 ∨ r75 = 1) ∧ Q r75 h75)) ∧ ((a0 < 0 ∨ 5 < a0) → w_X7_within zz a1 (0 : Int) (20 : Int) h (fun (r83 : Int) (h83 : AH) => (r83 = 0 ∨ r83 = 1) ∧ Q r83 h83))
set_option maxRecDepth 100000 in
set_option maxHeartbeats 4000000 in
theorem met_X7_isValue (G : GG) (l : Launch) : ∀ (As : List Value) (a0 : Int) (a1 : Int) (h : AH) (Q : Int → AH → Prop), As.map ab = List.map some ([vI a0, vI a1] : List AV) → w_X7_isValue G.2.2 a0 a1 h Q → Met l yX7_isValue (.code yX7_isValue cX7_isValue 2 (some .boolean) :: xTb) ({ frames := 1, cells := 0, slots := 0, locals := 22 } : Room) (PcA G As h) (QG G (oI Q)) 0 0 (frA G) := by
  intro As a0 a1 h Q hA hw
  refine met_of hA (by decide) (Nat.le_of_ble_eq_true rfl) (fun p e s m args below meth c C hml hr hnm => ?_)
  unfold w_X7_isValue at hw
  refine aw_iload_n (pc := 0) C dX7_isValue_0 rfl rfl ?_
  have hcs9 : a0 = 0 ∨ a0 = 1 ∨ a0 = 2 ∨ a0 = 3 ∨ a0 = 4 ∨ a0 = 5 ∨ (a0 < 0 ∨ 5 < a0) := by omega
  rcases hcs9 with hc9 | hc9 | hc9 | hc9 | hc9 | hc9 | hc9
  · have hw := hw.1 hc9
    refine aw_tableIn (pc := 1) (off := 39) (tgt := 40) C dX7_isValue_1 (by omega) (by omega) (by rw [hc9]; rfl) (by decide) ?_
    refine aw_iload_n (pc := 40) C dX7_isValue_40 rfl rfl ?_
    refine aw_iconst (pc := 41) C dX7_isValue_41 (i := (1 : Int)) (by decide) ?_
    refine aw_bipush (pc := 42) C dX7_isValue_42 (i := (9 : Int)) (by decide) ?_
    refine aw_callS (pc := 44) (as := [vI a1, vI (1 : Int), vI (9 : Int)]) C (fun As hA => met_X7_within G l As a1 (1 : Int) (9 : Int) _ _ hA hw) tw883 tw884 tw10 tw885 ⟨rfl, rfl⟩ ⟨by decide, by decide, pd_X7_within⟩ ⟨Nat.le_of_ble_eq_true rfl, Nat.le_of_ble_eq_true rfl⟩ ⟨Nat.zero_le _, Nat.zero_le _⟩ (Nat.le_of_ble_eq_true rfl) dX7_isValue_44 rfl (fun v9 h44 hq9 => ?_)
    obtain ⟨r44, rfl, hw⟩ := hq9
    obtain ⟨hp9, hw⟩ := hw
    exact aw_zret (pc := 47) C hr dX7_isValue_47 ⟨Nat.le_of_ble_eq_true rfl, Nat.le_of_ble_eq_true rfl⟩ hp9 ⟨_, rfl, hw⟩
  · have hw := hw.2.1 hc9
    refine aw_tableIn (pc := 1) (off := 47) (tgt := 48) C dX7_isValue_1 (by omega) (by omega) (by rw [hc9]; rfl) (by decide) ?_
    refine aw_iload_n (pc := 48) C dX7_isValue_48 rfl rfl ?_
    refine aw_iconst (pc := 49) C dX7_isValue_49 (i := (0 : Int)) (by decide) ?_
    refine aw_sipush (pc := 50) C dX7_isValue_50 (i := (200 : Int)) (by decide) ?_
    refine aw_callS (pc := 53) (as := [vI a1, vI (0 : Int), vI (200 : Int)]) C (fun As hA => met_X7_within G l As a1 (0 : Int) (200 : Int) _ _ hA hw) tw883 tw884 tw10 tw885 ⟨rfl, rfl⟩ ⟨by decide, by decide, pd_X7_within⟩ ⟨Nat.le_of_ble_eq_true rfl, Nat.le_of_ble_eq_true rfl⟩ ⟨Nat.zero_le _, Nat.zero_le _⟩ (Nat.le_of_ble_eq_true rfl) dX7_isValue_53 rfl (fun v9 h53 hq9 => ?_)
    obtain ⟨r53, rfl, hw⟩ := hq9
    obtain ⟨hp9, hw⟩ := hw
    exact aw_zret (pc := 56) C hr dX7_isValue_56 ⟨Nat.le_of_ble_eq_true rfl, Nat.le_of_ble_eq_true rfl⟩ hp9 ⟨_, rfl, hw⟩
  · have hw := hw.2.2.1 hc9
    refine aw_tableIn (pc := 1) (off := 47) (tgt := 48) C dX7_isValue_1 (by omega) (by omega) (by rw [hc9]; rfl) (by decide) ?_
    refine aw_iload_n (pc := 48) C dX7_isValue_48 rfl rfl ?_
    refine aw_iconst (pc := 49) C dX7_isValue_49 (i := (0 : Int)) (by decide) ?_
    refine aw_sipush (pc := 50) C dX7_isValue_50 (i := (200 : Int)) (by decide) ?_
    refine aw_callS (pc := 53) (as := [vI a1, vI (0 : Int), vI (200 : Int)]) C (fun As hA => met_X7_within G l As a1 (0 : Int) (200 : Int) _ _ hA hw) tw883 tw884 tw10 tw885 ⟨rfl, rfl⟩ ⟨by decide, by decide, pd_X7_within⟩ ⟨Nat.le_of_ble_eq_true rfl, Nat.le_of_ble_eq_true rfl⟩ ⟨Nat.zero_le _, Nat.zero_le _⟩ (Nat.le_of_ble_eq_true rfl) dX7_isValue_53 rfl (fun v9 h53 hq9 => ?_)
    obtain ⟨r53, rfl, hw⟩ := hq9
    obtain ⟨hp9, hw⟩ := hw
    exact aw_zret (pc := 56) C hr dX7_isValue_56 ⟨Nat.le_of_ble_eq_true rfl, Nat.le_of_ble_eq_true rfl⟩ hp9 ⟨_, rfl, hw⟩
  · have hw := hw.2.2.2.1 hc9
    refine aw_tableIn (pc := 1) (off := 56) (tgt := 57) C dX7_isValue_1 (by omega) (by omega) (by rw [hc9]; rfl) (by decide) ?_
    refine aw_iload_n (pc := 57) C dX7_isValue_57 rfl rfl ?_
    refine aw_iconst (pc := 58) C dX7_isValue_58 (i := (0 : Int)) (by decide) ?_
    refine aw_iconst (pc := 59) C dX7_isValue_59 (i := (1 : Int)) (by decide) ?_
    refine aw_callS (pc := 60) (as := [vI a1, vI (0 : Int), vI (1 : Int)]) C (fun As hA => met_X7_within G l As a1 (0 : Int) (1 : Int) _ _ hA hw) tw883 tw884 tw10 tw885 ⟨rfl, rfl⟩ ⟨by decide, by decide, pd_X7_within⟩ ⟨Nat.le_of_ble_eq_true rfl, Nat.le_of_ble_eq_true rfl⟩ ⟨Nat.zero_le _, Nat.zero_le _⟩ (Nat.le_of_ble_eq_true rfl) dX7_isValue_60 rfl (fun v9 h60 hq9 => ?_)
    obtain ⟨r60, rfl, hw⟩ := hq9
    obtain ⟨hp9, hw⟩ := hw
    exact aw_zret (pc := 63) C hr dX7_isValue_63 ⟨Nat.le_of_ble_eq_true rfl, Nat.le_of_ble_eq_true rfl⟩ hp9 ⟨_, rfl, hw⟩
  · have hw := hw.2.2.2.2.1 hc9
    refine aw_tableIn (pc := 1) (off := 63) (tgt := 64) C dX7_isValue_1 (by omega) (by omega) (by rw [hc9]; rfl) (by decide) ?_
    refine aw_iload_n (pc := 64) C dX7_isValue_64 rfl rfl ?_
    refine aw_iconst (pc := 65) C dX7_isValue_65 (i := (0 : Int)) (by decide) ?_
    refine aw_iconst (pc := 66) C dX7_isValue_66 (i := (2 : Int)) (by decide) ?_
    refine aw_callS (pc := 67) (as := [vI a1, vI (0 : Int), vI (2 : Int)]) C (fun As hA => met_X7_within G l As a1 (0 : Int) (2 : Int) _ _ hA hw) tw883 tw884 tw10 tw885 ⟨rfl, rfl⟩ ⟨by decide, by decide, pd_X7_within⟩ ⟨Nat.le_of_ble_eq_true rfl, Nat.le_of_ble_eq_true rfl⟩ ⟨Nat.zero_le _, Nat.zero_le _⟩ (Nat.le_of_ble_eq_true rfl) dX7_isValue_67 rfl (fun v9 h67 hq9 => ?_)
    obtain ⟨r67, rfl, hw⟩ := hq9
    obtain ⟨hp9, hw⟩ := hw
    exact aw_zret (pc := 70) C hr dX7_isValue_70 ⟨Nat.le_of_ble_eq_true rfl, Nat.le_of_ble_eq_true rfl⟩ hp9 ⟨_, rfl, hw⟩
  · have hw := hw.2.2.2.2.2.1 hc9
    refine aw_tableIn (pc := 1) (off := 70) (tgt := 71) C dX7_isValue_1 (by omega) (by omega) (by rw [hc9]; rfl) (by decide) ?_
    refine aw_iload_n (pc := 71) C dX7_isValue_71 rfl rfl ?_
    refine aw_iconst (pc := 72) C dX7_isValue_72 (i := (0 : Int)) (by decide) ?_
    refine aw_bipush (pc := 73) C dX7_isValue_73 (i := (9 : Int)) (by decide) ?_
    refine aw_callS (pc := 75) (as := [vI a1, vI (0 : Int), vI (9 : Int)]) C (fun As hA => met_X7_within G l As a1 (0 : Int) (9 : Int) _ _ hA hw) tw883 tw884 tw10 tw885 ⟨rfl, rfl⟩ ⟨by decide, by decide, pd_X7_within⟩ ⟨Nat.le_of_ble_eq_true rfl, Nat.le_of_ble_eq_true rfl⟩ ⟨Nat.zero_le _, Nat.zero_le _⟩ (Nat.le_of_ble_eq_true rfl) dX7_isValue_75 rfl (fun v9 h75 hq9 => ?_)
    obtain ⟨r75, rfl, hw⟩ := hq9
    obtain ⟨hp9, hw⟩ := hw
    exact aw_zret (pc := 78) C hr dX7_isValue_78 ⟨Nat.le_of_ble_eq_true rfl, Nat.le_of_ble_eq_true rfl⟩ hp9 ⟨_, rfl, hw⟩
  · have hw := hw.2.2.2.2.2.2 hc9
    refine aw_tableOut (pc := 1) (tgt := 79) C dX7_isValue_1 hc9 (by decide) ?_
    refine aw_iload_n (pc := 79) C dX7_isValue_79 rfl rfl ?_
    refine aw_iconst (pc := 80) C dX7_isValue_80 (i := (0 : Int)) (by decide) ?_
    refine aw_bipush (pc := 81) C dX7_isValue_81 (i := (20 : Int)) (by decide) ?_
    refine aw_callS (pc := 83) (as := [vI a1, vI (0 : Int), vI (20 : Int)]) C (fun As hA => met_X7_within G l As a1 (0 : Int) (20 : Int) _ _ hA hw) tw883 tw884 tw10 tw885 ⟨rfl, rfl⟩ ⟨by decide, by decide, pd_X7_within⟩ ⟨Nat.le_of_ble_eq_true rfl, Nat.le_of_ble_eq_true rfl⟩ ⟨Nat.zero_le _, Nat.zero_le _⟩ (Nat.le_of_ble_eq_true rfl) dX7_isValue_83 rfl (fun v9 h83 hq9 => ?_)
    obtain ⟨r83, rfl, hw⟩ := hq9
    obtain ⟨hp9, hw⟩ := hw
    exact aw_zret (pc := 86) C hr dX7_isValue_86 ⟨Nat.le_of_ble_eq_true rfl, Nat.le_of_ble_eq_true rfl⟩ hp9 ⟨_, rfl, hw⟩
theorem dX7_isSetting_0 : decode cX7_isSetting 0 = .ok (.iload_n 0, 1) := by decide +kernel
theorem dX7_isSetting_1 : decode cX7_isSetting 1 = .ok (.iconst 0, 1) := by decide +kernel
theorem dX7_isSetting_2 : decode cX7_isSetting 2 = .ok (.bipush 7, 2) := by decide +kernel
theorem dX7_isSetting_4 : decode cX7_isSetting 4 = .ok (.invokestatic 65, 3) := by decide +kernel
theorem dX7_isSetting_7 : decode cX7_isSetting 7 = .ok (.ireturn, 1) := by decide +kernel
theorem pd_X7_isSetting : (parseMethodDescriptor yX7_isSetting.desc).map (fun d => d.parameters.length) = some 1 := by decide +kernel
def w_X7_isSetting (zz : Nat → Nat) (a0 : Int) (h : AH) (Q : Int → AH → Prop) : Prop := w_X7_within zz a0 (0 : Int) (7 : Int) h (fun (r4 : Int) (h4 : AH) => (r4 = 0 ∨ r4 = 1) ∧ Q r4 h4)
set_option maxRecDepth 100000 in
set_option maxHeartbeats 4000000 in
theorem met_X7_isSetting (G : GG) (l : Launch) : ∀ (As : List Value) (a0 : Int) (h : AH) (Q : Int → AH → Prop), As.map ab = List.map some ([vI a0] : List AV) → w_X7_isSetting G.2.2 a0 h Q → Met l yX7_isSetting (.code yX7_isSetting cX7_isSetting 1 (some .boolean) :: xTb) ({ frames := 1, cells := 0, slots := 0, locals := 22 } : Room) (PcA G As h) (QG G (oI Q)) 0 0 (frA G) := by
  intro As a0 h Q hA hw
  refine met_of hA (by decide) (Nat.le_of_ble_eq_true rfl) (fun p e s m args below meth c C hml hr hnm => ?_)
  unfold w_X7_isSetting at hw
  refine aw_iload_n (pc := 0) C dX7_isSetting_0 rfl rfl ?_
  refine aw_iconst (pc := 1) C dX7_isSetting_1 (i := (0 : Int)) (by decide) ?_
  refine aw_bipush (pc := 2) C dX7_isSetting_2 (i := (7 : Int)) (by decide) ?_
  refine aw_callS (pc := 4) (as := [vI a0, vI (0 : Int), vI (7 : Int)]) C (fun As hA => met_X7_within G l As a0 (0 : Int) (7 : Int) _ _ hA hw) tw883 tw884 tw10 tw885 ⟨rfl, rfl⟩ ⟨by decide, by decide, pd_X7_within⟩ ⟨Nat.le_of_ble_eq_true rfl, Nat.le_of_ble_eq_true rfl⟩ ⟨Nat.zero_le _, Nat.zero_le _⟩ (Nat.le_of_ble_eq_true rfl) dX7_isSetting_4 rfl (fun v9 h4 hq9 => ?_)
  obtain ⟨r4, rfl, hw⟩ := hq9
  obtain ⟨hp9, hw⟩ := hw
  exact aw_zret (pc := 7) C hr dX7_isSetting_7 ⟨Nat.le_of_ble_eq_true rfl, Nat.le_of_ble_eq_true rfl⟩ hp9 ⟨_, rfl, hw⟩
theorem dX7_replaced_0 : decode cX7_replaced 0 = .ok (.aload_n 0, 1) := by decide +kernel
theorem dX7_replaced_1 : decode cX7_replaced 1 = .ok (.invokevirtual 146, 3) := by decide +kernel
theorem dX7_replaced_4 : decode cX7_replaced 4 = .ok (.aload_n 0, 1) := by decide +kernel
theorem dX7_replaced_5 : decode cX7_replaced 5 = .ok (.getfield 7, 3) := by decide +kernel
theorem dX7_replaced_8 : decode cX7_replaced 8 = .ok (.iload_n 1, 1) := by decide +kernel
theorem dX7_replaced_9 : decode cX7_replaced 9 = .ok (.iaload, 1) := by decide +kernel
theorem dX7_replaced_10 : decode cX7_replaced 10 = .ok (.istore_n 3, 1) := by decide +kernel
theorem dX7_replaced_11 : decode cX7_replaced 11 = .ok (.aload_n 0, 1) := by decide +kernel
theorem dX7_replaced_12 : decode cX7_replaced 12 = .ok (.getfield 7, 3) := by decide +kernel
theorem dX7_replaced_15 : decode cX7_replaced 15 = .ok (.iload_n 1, 1) := by decide +kernel
theorem dX7_replaced_16 : decode cX7_replaced 16 = .ok (.iload_n 2, 1) := by decide +kernel
theorem dX7_replaced_17 : decode cX7_replaced 17 = .ok (.iastore, 1) := by decide +kernel
theorem dX7_replaced_18 : decode cX7_replaced 18 = .ok (.iload_n 3, 1) := by decide +kernel
theorem dX7_replaced_19 : decode cX7_replaced 19 = .ok (.ireturn, 1) := by decide +kernel
theorem pd_X7_replaced : (parseMethodDescriptor yX7_replaced.desc).map (fun d => d.parameters.length) = some 2 := by decide +kernel
def w_X7_replaced (zz : Nat → Nat) (a0 : Nat) (a1 : Int) (a2 : Int) (h : AH) (Q : Int → AH → Prop) : Prop := okA h a0 7 ∧ w_X7_save zz a0 h (fun  (h1 : AH) => okA h1 a0 7 ∧ ∃ b5 : Nat, hfR h1 a0 1 = some b5 ∧ okI h1 b5 a1 ∧ ∀ x3_10 : Int, x3_10 = (haI h1 b5 a1) → okA h1 a0 7 ∧ ∃ b12 : Nat, hfR h1 a0 1 = some b12 ∧ okW h1 b12 a1 ∧ ∀ h17 : AH, h17 = saI h1 b12 (u1 (haI h1 b12) a1 a2) → Q x3_10 h17)
set_option maxRecDepth 100000 in
set_option maxHeartbeats 4000000 in
theorem met_X7_replaced (G : GG) (l : Launch) : ∀ (As : List Value) (a0 : Nat) (a1 : Int) (a2 : Int) (h : AH) (Q : Int → AH → Prop), As.map ab = List.map some ([vR a0, vI a1, vI a2] : List AV) → w_X7_replaced G.2.2 a0 a1 a2 h Q → Met l yX7_replaced (.code yX7_replaced cX7_replaced 4 (some .int) :: xTb) ({ frames := 1, cells := 0, slots := 0, locals := 21 } : Room) (PcA G As h) (QG G (oI Q)) 0 0 (frA G) := by
  intro As a0 a1 a2 h Q hA hw
  refine met_of hA (by decide) (Nat.le_of_ble_eq_true rfl) (fun p e s m args below meth c C hml hr hnm => ?_)
  unfold w_X7_replaced at hw
  refine aw_aload_n (pc := 0) C dX7_replaced_0 rfl rfl ?_
  obtain ⟨hp9, hw⟩ := hw
  refine aw_callV (pc := 1) (as := []) C ci7 (fun As hA => met_X7_save G l As a0 _ _ hA hw) tw868 tw870 (tbp 35 (n := 21) (by decide +kernel)) tw10 tw871 ⟨rfl, rfl⟩ ⟨rfl, by decide, by decide, pd_X7_save⟩ ⟨Nat.le_of_ble_eq_true rfl, Nat.le_of_ble_eq_true rfl⟩ ⟨Nat.zero_le _, Nat.zero_le _⟩ (Nat.le_of_ble_eq_true rfl) dX7_replaced_1 rfl hp9 (fun v9 h1 hq9 => ?_)
  obtain ⟨rfl, hw⟩ := hq9
  refine aw_aload_n (pc := 4) C dX7_replaced_4 rfl rfl ?_
  obtain ⟨hp9, b5, hb9, hw⟩ := hw
  refine aw_getR (pc := 5) C (ci := 7) (k := 1) ci7 (by decide) tw793 dX7_replaced_5 rfl hp9 hb9 ?_
  refine aw_iload_n (pc := 8) C dX7_replaced_8 rfl rfl ?_
  obtain ⟨⟨k9, hp9⟩, hw⟩ := hw
  refine aw_iald (pc := 9) C dX7_replaced_9 hp9 ?_
  refine aw_nmI (fun x3_10 e9 => ?_)
  have hw := hw x3_10 e9
  refine aw_istore_n (pc := 10) C dX7_replaced_10 rfl (by rw [hml]; decide) ?_
  refine aw_aload_n (pc := 11) C dX7_replaced_11 rfl rfl ?_
  obtain ⟨hp9, b12, hb9, hw⟩ := hw
  refine aw_getR (pc := 12) C (ci := 7) (k := 1) ci7 (by decide) tw793 dX7_replaced_12 rfl hp9 hb9 ?_
  refine aw_iload_n (pc := 15) C dX7_replaced_15 rfl rfl ?_
  refine aw_iload_n (pc := 16) C dX7_replaced_16 rfl rfl ?_
  obtain ⟨⟨k9, hp9⟩, hw⟩ := hw
  refine aw_iast (pc := 17) C dX7_replaced_17 hp9 (aw_nmH (fun h17 e9 => ?_))
  have hw := hw h17 e9
  refine aw_iload_n (pc := 18) C dX7_replaced_18 rfl rfl ?_
  exact aw_iret (pc := 19) C hr dX7_replaced_19 ⟨Nat.le_of_ble_eq_true rfl, Nat.le_of_ble_eq_true rfl⟩ ⟨_, rfl, hw⟩
theorem dX7_set_0 : decode cX7_set 0 = .ok (.aload_n 0, 1) := by decide +kernel
theorem dX7_set_1 : decode cX7_set 1 = .ok (.iload_n 1, 1) := by decide +kernel
theorem dX7_set_2 : decode cX7_set 2 = .ok (.invokestatic 152, 3) := by decide +kernel
theorem dX7_set_5 : decode cX7_set 5 = .ok (.ifCond .ne 7, 3) := by decide +kernel
theorem dX7_set_8 : decode cX7_set 8 = .ok (.iconst 1, 1) := by decide +kernel
theorem dX7_set_9 : decode cX7_set 9 = .ok (.goto 16, 3) := by decide +kernel
theorem dX7_set_12 : decode cX7_set 12 = .ok (.iload_n 1, 1) := by decide +kernel
theorem dX7_set_13 : decode cX7_set 13 = .ok (.iload_n 2, 1) := by decide +kernel
theorem dX7_set_14 : decode cX7_set 14 = .ok (.invokestatic 155, 3) := by decide +kernel
theorem dX7_set_17 : decode cX7_set 17 = .ok (.ifCond .eq 7, 3) := by decide +kernel
theorem dX7_set_20 : decode cX7_set 20 = .ok (.iconst 0, 1) := by decide +kernel
theorem dX7_set_21 : decode cX7_set 21 = .ok (.goto 4, 3) := by decide +kernel
theorem dX7_set_24 : decode cX7_set 24 = .ok (.iconst 2, 1) := by decide +kernel
theorem dX7_set_25 : decode cX7_set 25 = .ok (.putfield 61, 3) := by decide +kernel
theorem dX7_set_28 : decode cX7_set 28 = .ok (.aload_n 0, 1) := by decide +kernel
theorem dX7_set_29 : decode cX7_set 29 = .ok (.getfield 61, 3) := by decide +kernel
theorem dX7_set_32 : decode cX7_set 32 = .ok (.ifCond .le 7, 3) := by decide +kernel
theorem dX7_set_35 : decode cX7_set 35 = .ok (.iconst 0, 1) := by decide +kernel
theorem dX7_set_36 : decode cX7_set 36 = .ok (.goto 13, 3) := by decide +kernel
theorem dX7_set_39 : decode cX7_set 39 = .ok (.aload_n 0, 1) := by decide +kernel
theorem dX7_set_40 : decode cX7_set 40 = .ok (.sipush 160, 3) := by decide +kernel
theorem dX7_set_43 : decode cX7_set 43 = .ok (.iload_n 1, 1) := by decide +kernel
theorem dX7_set_44 : decode cX7_set 44 = .ok (.iadd, 1) := by decide +kernel
theorem dX7_set_45 : decode cX7_set 45 = .ok (.iload_n 2, 1) := by decide +kernel
theorem dX7_set_46 : decode cX7_set 46 = .ok (.invokevirtual 158, 3) := by decide +kernel
theorem dX7_set_49 : decode cX7_set 49 = .ok (.ireturn, 1) := by decide +kernel
theorem pd_X7_set : (parseMethodDescriptor yX7_set.desc).map (fun d => d.parameters.length) = some 2 := by decide +kernel
def w_X7_set (zz : Nat → Nat) (a0 : Nat) (a1 : Int) (a2 : Int) (h : AH) (Q : Int → AH → Prop) : Prop := w_X7_isSetting zz a1 h (fun (r2 : Int) (h2 : AH) => jn (fun (t1_25 : Int) (h_25 : AH) => okP h_25 a0 7 ∧ ∀ h25 : AH, h25 = sfI h_25 a0 0 t1_25 → okA h25 a0 7 ∧ jn (fun (t0_49 : Int) (h_49 : AH) => Q t0_49 h_49) (fun k_49 : Int → AH → Prop => (((hfI h25 a0 0) ≤ 0) → inR ((160 : Int) + a1) ∧ okA h25 a0 7 ∧ w_X7_replaced zz a0 ((160 : Int) + a1) a2 h25 (fun (r46 : Int) (h46 : AH) => k_49 r46 h46)) ∧ ((¬ ((hfI h25 a0 0) ≤ 0)) → k_49 (0 : Int) h25))) (fun k_25 : Int → AH → Prop => ((¬ r2 = 0) → w_X7_isValue zz a1 a2 h2 (fun (r14 : Int) (h14 : AH) => ((r14 = 0) → k_25 (2 : Int) h14) ∧ ((¬ (r14 = 0)) → k_25 (0 : Int) h14))) ∧ ((r2 = 0) → k_25 (1 : Int) h2)))
set_option maxRecDepth 100000 in
set_option maxHeartbeats 4000000 in
theorem met_X7_set (G : GG) (l : Launch) : ∀ (As : List Value) (a0 : Nat) (a1 : Int) (a2 : Int) (h : AH) (Q : Int → AH → Prop), As.map ab = List.map some ([vR a0, vI a1, vI a2] : List AV) → w_X7_set G.2.2 a0 a1 a2 h Q → Met l yX7_set (.code yX7_set cX7_set 3 (some .int) :: xTb) ({ frames := 2, cells := 0, slots := 0, locals := 44 } : Room) (PcA G As h) (QG G (oI Q)) 0 0 (frA G) := by
  intro As a0 a1 a2 h Q hA hw
  refine met_of hA (by decide) (Nat.le_of_ble_eq_true rfl) (fun p e s m args below meth c C hml hr hnm => ?_)
  unfold w_X7_set at hw
  refine aw_aload_n (pc := 0) C dX7_set_0 rfl rfl ?_
  refine aw_iload_n (pc := 1) C dX7_set_1 rfl rfl ?_
  refine aw_callS (pc := 2) (as := [vI a1]) C (fun As hA => met_X7_isSetting G l As a1 _ _ hA hw) tw880 tw881 tw10 tw882 ⟨rfl, rfl⟩ ⟨by decide, by decide, pd_X7_isSetting⟩ ⟨Nat.le_of_ble_eq_true rfl, Nat.le_of_ble_eq_true rfl⟩ ⟨Nat.zero_le _, Nat.zero_le _⟩ (Nat.le_of_ble_eq_true rfl) dX7_set_2 rfl (fun v9 h2 hq9 => ?_)
  obtain ⟨r2, rfl, hw⟩ := hq9
  obtain ⟨k_25, hk_25, hw⟩ := jn_out hw
  have J_25 : ∀ (t1_25 : Int) (h_25 : AH), k_25 t1_25 h_25 → AW G p l e ({ frames := 2, cells := 0, slots := 0, locals := 44 } : Room) s m args below meth c 0 0 (MQ below (QG G (oI Q)) args s 0 0 (frA G)) 25 (eOf [(0, vR a0), (1, vI a1), (2, vI a2)]) [vI t1_25, vR a0] h_25 := by
    intro t1_25 h_25 hw
    rw [hk_25] at hw
    obtain ⟨hp9, hw⟩ := hw
    refine aw_putI (pc := 25) C (ci := 7) (k := 0) ci7 (by decide) tw792 (Or.inl rfl) dX7_set_25 rfl hp9 (aw_nmH (fun h25 e9 => ?_))
    have hw := hw h25 e9
    refine aw_aload_n (pc := 28) C dX7_set_28 rfl rfl ?_
    obtain ⟨hp9, hw⟩ := hw
    refine aw_getI (pc := 29) C (ci := 7) (k := 0) ci7 (by decide) tw792 dX7_set_29 rfl hp9 ?_
    obtain ⟨k_49, hk_49, hw⟩ := jn_out hw
    have J_49 : ∀ (t0_49 : Int) (h_49 : AH), k_49 t0_49 h_49 → AW G p l e ({ frames := 2, cells := 0, slots := 0, locals := 44 } : Room) s m args below meth c 0 0 (MQ below (QG G (oI Q)) args s 0 0 (frA G)) 49 (eOf []) [vI t0_49] h_49 := by
      intro t0_49 h_49 hw
      rw [hk_49] at hw
      exact aw_iret (pc := 49) C hr dX7_set_49 ⟨Nat.le_of_ble_eq_true rfl, Nat.le_of_ble_eq_true rfl⟩ ⟨_, rfl, hw⟩
    refine aw_if_le (pc := 32) (tgt := 39) C dX7_set_32 (by decide) (fun hc9 => ?_) (fun hc9 => ?_)
    · have hw := hw.1 hc9
      refine aw_aload_n (pc := 39) C dX7_set_39 rfl rfl ?_
      refine aw_sipush (pc := 40) C dX7_set_40 (i := (160 : Int)) (by decide) ?_
      refine aw_iload_n (pc := 43) C dX7_set_43 rfl rfl ?_
      obtain ⟨hp9, hw⟩ := hw
      refine aw_iadd (pc := 44) C dX7_set_44 hp9 ?_
      refine aw_iload_n (pc := 45) C dX7_set_45 rfl rfl ?_
      obtain ⟨hp9, hw⟩ := hw
      refine aw_callV (pc := 46) (as := [vI ((160 : Int) + a1), vI a2]) C ci7 (fun As hA => met_X7_replaced G l As a0 ((160 : Int) + a1) a2 _ _ hA hw) tw889 tw891 (tbp 37 (n := 21) (by decide +kernel)) tw10 tw892 ⟨rfl, rfl⟩ ⟨rfl, by decide, by decide, pd_X7_replaced⟩ ⟨Nat.le_of_ble_eq_true rfl, Nat.le_of_ble_eq_true rfl⟩ ⟨Nat.zero_le _, Nat.zero_le _⟩ (Nat.le_of_ble_eq_true rfl) dX7_set_46 rfl hp9 (fun v9 h46 hq9 => ?_)
      obtain ⟨r46, rfl, hw⟩ := hq9
      refine aw_sub [] trivial ?_
      exact J_49 _ _ hw
    · have hw := hw.2 hc9
      refine aw_iconst (pc := 35) C dX7_set_35 (i := (0 : Int)) (by decide) ?_
      refine aw_goto (pc := 36) (tgt := 49) C dX7_set_36 (by decide) ?_
      refine aw_sub [] trivial ?_
      exact J_49 _ _ hw
  refine aw_if_ne (pc := 5) (tgt := 12) C dX7_set_5 (by decide) (fun hc9 => ?_) (fun hc9 => ?_)
  · have hw := hw.1 hc9
    refine aw_iload_n (pc := 12) C dX7_set_12 rfl rfl ?_
    refine aw_iload_n (pc := 13) C dX7_set_13 rfl rfl ?_
    refine aw_callS (pc := 14) (as := [vI a1, vI a2]) C (fun As hA => met_X7_isValue G l As a1 a2 _ _ hA hw) tw886 tw887 tw10 tw888 ⟨rfl, rfl⟩ ⟨by decide, by decide, pd_X7_isValue⟩ ⟨Nat.le_of_ble_eq_true rfl, Nat.le_of_ble_eq_true rfl⟩ ⟨Nat.zero_le _, Nat.zero_le _⟩ (Nat.le_of_ble_eq_true rfl) dX7_set_14 rfl (fun v9 h14 hq9 => ?_)
    obtain ⟨r14, rfl, hw⟩ := hq9
    refine aw_if_eq (pc := 17) (tgt := 24) C dX7_set_17 (by decide) (fun hc9 => ?_) (fun hc9 => ?_)
    · have hw := hw.1 hc9
      refine aw_iconst (pc := 24) C dX7_set_24 (i := (2 : Int)) (by decide) ?_
      refine aw_sub [(0, vR a0), (1, vI a1), (2, vI a2)] ⟨rfl, rfl, rfl, trivial⟩ ?_
      exact J_25 _ _ hw
    · have hw := hw.2 hc9
      refine aw_iconst (pc := 20) C dX7_set_20 (i := (0 : Int)) (by decide) ?_
      refine aw_goto (pc := 21) (tgt := 25) C dX7_set_21 (by decide) ?_
      refine aw_sub [(0, vR a0), (1, vI a1), (2, vI a2)] ⟨rfl, rfl, rfl, trivial⟩ ?_
      exact J_25 _ _ hw
  · have hw := hw.2 hc9
    refine aw_iconst (pc := 8) C dX7_set_8 (i := (1 : Int)) (by decide) ?_
    refine aw_goto (pc := 9) (tgt := 25) C dX7_set_9 (by decide) ?_
    refine aw_sub [(0, vR a0), (1, vI a1), (2, vI a2)] ⟨rfl, rfl, rfl, trivial⟩ ?_
    exact J_25 _ _ hw
theorem dX7_isText_0 : decode cX7_isText 0 = .ok (.iload_n 0, 1) := by decide +kernel
theorem dX7_isText_1 : decode cX7_isText 1 = .ok (.iconst 0, 1) := by decide +kernel
theorem dX7_isText_2 : decode cX7_isText 2 = .ok (.iconst 1, 1) := by decide +kernel
theorem dX7_isText_3 : decode cX7_isText 3 = .ok (.invokestatic 65, 3) := by decide +kernel
theorem dX7_isText_6 : decode cX7_isText 6 = .ok (.ireturn, 1) := by decide +kernel
theorem pd_X7_isText : (parseMethodDescriptor yX7_isText.desc).map (fun d => d.parameters.length) = some 1 := by decide +kernel
def w_X7_isText (zz : Nat → Nat) (a0 : Int) (h : AH) (Q : Int → AH → Prop) : Prop := w_X7_within zz a0 (0 : Int) (1 : Int) h (fun (r3 : Int) (h3 : AH) => (r3 = 0 ∨ r3 = 1) ∧ Q r3 h3)
set_option maxRecDepth 100000 in
set_option maxHeartbeats 4000000 in
theorem met_X7_isText (G : GG) (l : Launch) : ∀ (As : List Value) (a0 : Int) (h : AH) (Q : Int → AH → Prop), As.map ab = List.map some ([vI a0] : List AV) → w_X7_isText G.2.2 a0 h Q → Met l yX7_isText (.code yX7_isText cX7_isText 1 (some .boolean) :: xTb) ({ frames := 1, cells := 0, slots := 0, locals := 22 } : Room) (PcA G As h) (QG G (oI Q)) 0 0 (frA G) := by
  intro As a0 h Q hA hw
  refine met_of hA (by decide) (Nat.le_of_ble_eq_true rfl) (fun p e s m args below meth c C hml hr hnm => ?_)
  unfold w_X7_isText at hw
  refine aw_iload_n (pc := 0) C dX7_isText_0 rfl rfl ?_
  refine aw_iconst (pc := 1) C dX7_isText_1 (i := (0 : Int)) (by decide) ?_
  refine aw_iconst (pc := 2) C dX7_isText_2 (i := (1 : Int)) (by decide) ?_
  refine aw_callS (pc := 3) (as := [vI a0, vI (0 : Int), vI (1 : Int)]) C (fun As hA => met_X7_within G l As a0 (0 : Int) (1 : Int) _ _ hA hw) tw883 tw884 tw10 tw885 ⟨rfl, rfl⟩ ⟨by decide, by decide, pd_X7_within⟩ ⟨Nat.le_of_ble_eq_true rfl, Nat.le_of_ble_eq_true rfl⟩ ⟨Nat.zero_le _, Nat.zero_le _⟩ (Nat.le_of_ble_eq_true rfl) dX7_isText_3 rfl (fun v9 h3 hq9 => ?_)
  obtain ⟨r3, rfl, hw⟩ := hq9
  obtain ⟨hp9, hw⟩ := hw
  exact aw_zret (pc := 6) C hr dX7_isText_6 ⟨Nat.le_of_ble_eq_true rfl, Nat.le_of_ble_eq_true rfl⟩ hp9 ⟨_, rfl, hw⟩
theorem dX7_isCell_0 : decode cX7_isCell 0 = .ok (.iload_n 0, 1) := by decide +kernel
theorem dX7_isCell_1 : decode cX7_isCell 1 = .ok (.iconst 0, 1) := by decide +kernel
theorem dX7_isCell_2 : decode cX7_isCell 2 = .ok (.iconst 4, 1) := by decide +kernel
theorem dX7_isCell_3 : decode cX7_isCell 3 = .ok (.invokestatic 65, 3) := by decide +kernel
theorem dX7_isCell_6 : decode cX7_isCell 6 = .ok (.ifCond .eq 17, 3) := by decide +kernel
theorem dX7_isCell_9 : decode cX7_isCell 9 = .ok (.iload_n 1, 1) := by decide +kernel
theorem dX7_isCell_10 : decode cX7_isCell 10 = .ok (.iconst 0, 1) := by decide +kernel
theorem dX7_isCell_11 : decode cX7_isCell 11 = .ok (.bipush 15, 2) := by decide +kernel
theorem dX7_isCell_13 : decode cX7_isCell 13 = .ok (.invokestatic 65, 3) := by decide +kernel
theorem dX7_isCell_16 : decode cX7_isCell 16 = .ok (.ifCond .eq 7, 3) := by decide +kernel
theorem dX7_isCell_19 : decode cX7_isCell 19 = .ok (.iconst 1, 1) := by decide +kernel
theorem dX7_isCell_20 : decode cX7_isCell 20 = .ok (.goto 4, 3) := by decide +kernel
theorem dX7_isCell_23 : decode cX7_isCell 23 = .ok (.iconst 0, 1) := by decide +kernel
theorem dX7_isCell_24 : decode cX7_isCell 24 = .ok (.ireturn, 1) := by decide +kernel
theorem pd_X7_isCell : (parseMethodDescriptor yX7_isCell.desc).map (fun d => d.parameters.length) = some 2 := by decide +kernel
def w_X7_isCell (zz : Nat → Nat) (a0 : Int) (a1 : Int) (h : AH) (Q : Int → AH → Prop) : Prop := w_X7_within zz a0 (0 : Int) (4 : Int) h (fun (r3 : Int) (h3 : AH) => jn (fun (t0_24 : Int) (h_24 : AH) => (t0_24 = 0 ∨ t0_24 = 1) ∧ Q t0_24 h_24) (fun k_24 : Int → AH → Prop => jn (fun  (h_23 : AH) => k_24 (0 : Int) h_23) (fun k_23 : AH → Prop => ((r3 = 0) → k_23  h3) ∧ ((¬ (r3 = 0)) → w_X7_within zz a1 (0 : Int) (15 : Int) h3 (fun (r13 : Int) (h13 : AH) => ((r13 = 0) → k_23  h13) ∧ ((¬ (r13 = 0)) → k_24 (1 : Int) h13))))))
set_option maxRecDepth 100000 in
set_option maxHeartbeats 4000000 in
theorem met_X7_isCell (G : GG) (l : Launch) : ∀ (As : List Value) (a0 : Int) (a1 : Int) (h : AH) (Q : Int → AH → Prop), As.map ab = List.map some ([vI a0, vI a1] : List AV) → w_X7_isCell G.2.2 a0 a1 h Q → Met l yX7_isCell (.code yX7_isCell cX7_isCell 2 (some .boolean) :: xTb) ({ frames := 1, cells := 0, slots := 0, locals := 22 } : Room) (PcA G As h) (QG G (oI Q)) 0 0 (frA G) := by
  intro As a0 a1 h Q hA hw
  refine met_of hA (by decide) (Nat.le_of_ble_eq_true rfl) (fun p e s m args below meth c C hml hr hnm => ?_)
  unfold w_X7_isCell at hw
  refine aw_iload_n (pc := 0) C dX7_isCell_0 rfl rfl ?_
  refine aw_iconst (pc := 1) C dX7_isCell_1 (i := (0 : Int)) (by decide) ?_
  refine aw_iconst (pc := 2) C dX7_isCell_2 (i := (4 : Int)) (by decide) ?_
  refine aw_callS (pc := 3) (as := [vI a0, vI (0 : Int), vI (4 : Int)]) C (fun As hA => met_X7_within G l As a0 (0 : Int) (4 : Int) _ _ hA hw) tw883 tw884 tw10 tw885 ⟨rfl, rfl⟩ ⟨by decide, by decide, pd_X7_within⟩ ⟨Nat.le_of_ble_eq_true rfl, Nat.le_of_ble_eq_true rfl⟩ ⟨Nat.zero_le _, Nat.zero_le _⟩ (Nat.le_of_ble_eq_true rfl) dX7_isCell_3 rfl (fun v9 h3 hq9 => ?_)
  obtain ⟨r3, rfl, hw⟩ := hq9
  obtain ⟨k_24, hk_24, hw⟩ := jn_out hw
  have J_24 : ∀ (t0_24 : Int) (h_24 : AH), k_24 t0_24 h_24 → AW G p l e ({ frames := 1, cells := 0, slots := 0, locals := 22 } : Room) s m args below meth c 0 0 (MQ below (QG G (oI Q)) args s 0 0 (frA G)) 24 (eOf []) [vI t0_24] h_24 := by
    intro t0_24 h_24 hw
    rw [hk_24] at hw
    obtain ⟨hp9, hw⟩ := hw
    exact aw_zret (pc := 24) C hr dX7_isCell_24 ⟨Nat.le_of_ble_eq_true rfl, Nat.le_of_ble_eq_true rfl⟩ hp9 ⟨_, rfl, hw⟩
  obtain ⟨k_23, hk_23, hw⟩ := jn_out hw
  have J_23 : ∀  (h_23 : AH), k_23  h_23 → AW G p l e ({ frames := 1, cells := 0, slots := 0, locals := 22 } : Room) s m args below meth c 0 0 (MQ below (QG G (oI Q)) args s 0 0 (frA G)) 23 (eOf []) [] h_23 := by
    intro  h_23 hw
    rw [hk_23] at hw
    refine aw_iconst (pc := 23) C dX7_isCell_23 (i := (0 : Int)) (by decide) ?_
    refine aw_sub [] trivial ?_
    exact J_24 _ _ hw
  refine aw_if_eq (pc := 6) (tgt := 23) C dX7_isCell_6 (by decide) (fun hc9 => ?_) (fun hc9 => ?_)
  · have hw := hw.1 hc9
    refine aw_sub [] trivial ?_
    exact J_23  _ hw
  · have hw := hw.2 hc9
    refine aw_iload_n (pc := 9) C dX7_isCell_9 rfl rfl ?_
    refine aw_iconst (pc := 10) C dX7_isCell_10 (i := (0 : Int)) (by decide) ?_
    refine aw_bipush (pc := 11) C dX7_isCell_11 (i := (15 : Int)) (by decide) ?_
    refine aw_callS (pc := 13) (as := [vI a1, vI (0 : Int), vI (15 : Int)]) C (fun As hA => met_X7_within G l As a1 (0 : Int) (15 : Int) _ _ hA hw) tw883 tw884 tw10 tw885 ⟨rfl, rfl⟩ ⟨by decide, by decide, pd_X7_within⟩ ⟨Nat.le_of_ble_eq_true rfl, Nat.le_of_ble_eq_true rfl⟩ ⟨Nat.zero_le _, Nat.zero_le _⟩ (Nat.le_of_ble_eq_true rfl) dX7_isCell_13 rfl (fun v9 h13 hq9 => ?_)
    obtain ⟨r13, rfl, hw⟩ := hq9
    refine aw_if_eq (pc := 16) (tgt := 23) C dX7_isCell_16 (by decide) (fun hc9 => ?_) (fun hc9 => ?_)
    · have hw := hw.1 hc9
      refine aw_sub [] trivial ?_
      exact J_23  _ hw
    · have hw := hw.2 hc9
      refine aw_iconst (pc := 19) C dX7_isCell_19 (i := (1 : Int)) (by decide) ?_
      refine aw_goto (pc := 20) (tgt := 24) C dX7_isCell_20 (by decide) ?_
      refine aw_sub [] trivial ?_
      exact J_24 _ _ hw
theorem dX7_put_0 : decode cX7_put 0 = .ok (.iload_n 1, 1) := by decide +kernel
theorem dX7_put_1 : decode cX7_put 1 = .ok (.invokestatic 161, 3) := by decide +kernel
theorem dX7_put_4 : decode cX7_put 4 = .ok (.ifCond .eq 15, 3) := by decide +kernel
theorem dX7_put_7 : decode cX7_put 7 = .ok (.iload_n 2, 1) := by decide +kernel
theorem dX7_put_8 : decode cX7_put 8 = .ok (.iload_n 3, 1) := by decide +kernel
theorem dX7_put_9 : decode cX7_put 9 = .ok (.invokestatic 164, 3) := by decide +kernel
theorem dX7_put_12 : decode cX7_put 12 = .ok (.ifCond .eq 7, 3) := by decide +kernel
theorem dX7_put_15 : decode cX7_put 15 = .ok (.iconst 1, 1) := by decide +kernel
theorem dX7_put_16 : decode cX7_put 16 = .ok (.goto 4, 3) := by decide +kernel
theorem dX7_put_19 : decode cX7_put 19 = .ok (.iconst 0, 1) := by decide +kernel
theorem dX7_put_20 : decode cX7_put 20 = .ok (.istore 5, 2) := by decide +kernel
theorem dX7_put_22 : decode cX7_put 22 = .ok (.aload_n 0, 1) := by decide +kernel
theorem dX7_put_23 : decode cX7_put 23 = .ok (.iload 5, 2) := by decide +kernel
theorem dX7_put_25 : decode cX7_put 25 = .ok (.ifCond .ne 7, 3) := by decide +kernel
theorem dX7_put_28 : decode cX7_put 28 = .ok (.iconst 1, 1) := by decide +kernel
theorem dX7_put_29 : decode cX7_put 29 = .ok (.goto 23, 3) := by decide +kernel
theorem dX7_put_32 : decode cX7_put 32 = .ok (.iload 4, 2) := by decide +kernel
theorem dX7_put_34 : decode cX7_put 34 = .ok (.invokestatic 167, 3) := by decide +kernel
theorem dX7_put_37 : decode cX7_put 37 = .ok (.ifCond .ne 14, 3) := by decide +kernel
theorem dX7_put_40 : decode cX7_put 40 = .ok (.iload 4, 2) := by decide +kernel
theorem dX7_put_42 : decode cX7_put 42 = .ok (.bipush 32, 2) := by decide +kernel
theorem dX7_put_44 : decode cX7_put 44 = .ok (.if_icmp .eq 7, 3) := by decide +kernel
theorem dX7_put_47 : decode cX7_put 47 = .ok (.iconst 2, 1) := by decide +kernel
theorem dX7_put_48 : decode cX7_put 48 = .ok (.goto 4, 3) := by decide +kernel
theorem dX7_put_51 : decode cX7_put 51 = .ok (.iconst 0, 1) := by decide +kernel
theorem dX7_put_52 : decode cX7_put 52 = .ok (.putfield 61, 3) := by decide +kernel
theorem dX7_put_55 : decode cX7_put 55 = .ok (.aload_n 0, 1) := by decide +kernel
theorem dX7_put_56 : decode cX7_put 56 = .ok (.getfield 61, 3) := by decide +kernel
theorem dX7_put_59 : decode cX7_put 59 = .ok (.ifCond .le 5, 3) := by decide +kernel
theorem dX7_put_62 : decode cX7_put 62 = .ok (.iconst 0, 1) := by decide +kernel
theorem dX7_put_63 : decode cX7_put 63 = .ok (.ireturn, 1) := by decide +kernel
theorem dX7_put_64 : decode cX7_put 64 = .ok (.bipush 80, 2) := by decide +kernel
theorem dX7_put_66 : decode cX7_put 66 = .ok (.iload_n 1, 1) := by decide +kernel
theorem dX7_put_67 : decode cX7_put 67 = .ok (.imul, 1) := by decide +kernel
theorem dX7_put_68 : decode cX7_put 68 = .ok (.bipush 16, 2) := by decide +kernel
theorem dX7_put_70 : decode cX7_put 70 = .ok (.iload_n 2, 1) := by decide +kernel
theorem dX7_put_71 : decode cX7_put 71 = .ok (.imul, 1) := by decide +kernel
theorem dX7_put_72 : decode cX7_put 72 = .ok (.iadd, 1) := by decide +kernel
theorem dX7_put_73 : decode cX7_put 73 = .ok (.iload_n 3, 1) := by decide +kernel
theorem dX7_put_74 : decode cX7_put 74 = .ok (.iadd, 1) := by decide +kernel
theorem dX7_put_75 : decode cX7_put 75 = .ok (.istore 6, 2) := by decide +kernel
theorem dX7_put_77 : decode cX7_put 77 = .ok (.aload_n 0, 1) := by decide +kernel
theorem dX7_put_78 : decode cX7_put 78 = .ok (.iload 4, 2) := by decide +kernel
theorem dX7_put_80 : decode cX7_put 80 = .ok (.bipush 32, 2) := by decide +kernel
theorem dX7_put_82 : decode cX7_put 82 = .ok (.if_icmp .eq 29, 3) := by decide +kernel
theorem dX7_put_85 : decode cX7_put 85 = .ok (.aload_n 0, 1) := by decide +kernel
theorem dX7_put_86 : decode cX7_put 86 = .ok (.getfield 7, 3) := by decide +kernel
theorem dX7_put_89 : decode cX7_put 89 = .ok (.iload 6, 2) := by decide +kernel
theorem dX7_put_91 : decode cX7_put 91 = .ok (.iaload, 1) := by decide +kernel
theorem dX7_put_92 : decode cX7_put 92 = .ok (.bipush 32, 2) := by decide +kernel
theorem dX7_put_94 : decode cX7_put 94 = .ok (.if_icmp .ne 17, 3) := by decide +kernel
theorem dX7_put_97 : decode cX7_put 97 = .ok (.aload_n 0, 1) := by decide +kernel
theorem dX7_put_98 : decode cX7_put 98 = .ok (.iload_n 1, 1) := by decide +kernel
theorem dX7_put_99 : decode cX7_put 99 = .ok (.invokevirtual 149, 3) := by decide +kernel
theorem dX7_put_102 : decode cX7_put 102 = .ok (.bipush 40, 2) := by decide +kernel
theorem dX7_put_104 : decode cX7_put 104 = .ok (.if_icmp .ne 7, 3) := by decide +kernel
theorem dX7_put_107 : decode cX7_put 107 = .ok (.iconst 3, 1) := by decide +kernel
theorem dX7_put_108 : decode cX7_put 108 = .ok (.goto 4, 3) := by decide +kernel
theorem dX7_put_111 : decode cX7_put 111 = .ok (.iconst 0, 1) := by decide +kernel
theorem dX7_put_112 : decode cX7_put 112 = .ok (.putfield 61, 3) := by decide +kernel
theorem dX7_put_115 : decode cX7_put 115 = .ok (.aload_n 0, 1) := by decide +kernel
theorem dX7_put_116 : decode cX7_put 116 = .ok (.getfield 61, 3) := by decide +kernel
theorem dX7_put_119 : decode cX7_put 119 = .ok (.ifCond .le 7, 3) := by decide +kernel
theorem dX7_put_122 : decode cX7_put 122 = .ok (.iconst 0, 1) := by decide +kernel
theorem dX7_put_123 : decode cX7_put 123 = .ok (.goto 11, 3) := by decide +kernel
theorem dX7_put_126 : decode cX7_put 126 = .ok (.aload_n 0, 1) := by decide +kernel
theorem dX7_put_127 : decode cX7_put 127 = .ok (.iload 6, 2) := by decide +kernel
theorem dX7_put_129 : decode cX7_put 129 = .ok (.iload 4, 2) := by decide +kernel
theorem dX7_put_131 : decode cX7_put 131 = .ok (.invokevirtual 158, 3) := by decide +kernel
theorem dX7_put_134 : decode cX7_put 134 = .ok (.ireturn, 1) := by decide +kernel
theorem pd_X7_put : (parseMethodDescriptor yX7_put.desc).map (fun d => d.parameters.length) = some 4 := by decide +kernel
def w_X7_put (zz : Nat → Nat) (a0 : Nat) (a1 : Int) (a2 : Int) (a3 : Int) (a4 : Int) (h : AH) (Q : Int → AH → Prop) : Prop := w_X7_isText zz a1 h (fun (r1 : Int) (h1 : AH) => jn (fun (t0_20 : Int) (h_20 : AH) => jn (fun (t1_52 : Int) (h_52 : AH) => okP h_52 a0 7 ∧ ∀ h52 : AH, h52 = sfI h_52 a0 0 t1_52 → okA h52 a0 7 ∧ (((hfI h52 a0 0) ≤ 0) → inR ((80 : Int) * a1) ∧ inR ((16 : Int) * a2) ∧ inR (((80 : Int) * a1) + ((16 : Int) * a2)) ∧ inR ((((80 : Int) * a1) + ((16 : Int) * a2)) + a3) ∧ ∀ x6_75 : Int, x6_75 = ((((80 : Int) * a1) + ((16 : Int) * a2)) + a3) → jn (fun (t1_112 : Int) (h_112 : AH) => okP h_112 a0 7 ∧ ∀ h112 : AH, h112 = sfI h_112 a0 0 t1_112 → okA h112 a0 7 ∧ jn (fun (t0_134 : Int) (h_134 : AH) => Q t0_134 h_134) (fun k_134 : Int → AH → Prop => (((hfI h112 a0 0) ≤ 0) → okA h112 a0 7 ∧ w_X7_replaced zz a0 x6_75 a4 h112 (fun (r131 : Int) (h131 : AH) => k_134 r131 h131)) ∧ ((¬ ((hfI h112 a0 0) ≤ 0)) → k_134 (0 : Int) h112))) (fun k_112 : Int → AH → Prop => jn (fun  (h_111 : AH) => k_112 (0 : Int) h_111) (fun k_111 : AH → Prop => ((a4 = (32 : Int)) → k_111  h52) ∧ ((¬ (a4 = (32 : Int))) → okA h52 a0 7 ∧ ∃ b86 : Nat, hfR h52 a0 1 = some b86 ∧ okI h52 b86 x6_75 ∧ ((¬ (haI h52 b86 x6_75) = (32 : Int)) → k_111  h52) ∧ (((haI h52 b86 x6_75) = (32 : Int)) → okA h52 a0 7 ∧ w_X7_lettersOf zz a0 a1 h52 (fun (r99 : Int) (h99 : AH) => ((¬ r99 = (40 : Int)) → k_111  h99) ∧ ((r99 = (40 : Int)) → k_112 (3 : Int) h99))))))) ∧ ((¬ ((hfI h52 a0 0) ≤ 0)) → Q (0 : Int) h52)) (fun k_52 : Int → AH → Prop => ((¬ t0_20 = 0) → w_X7_isLetter zz a4 h_20 (fun (r34 : Int) (h34 : AH) => jn (fun  (h_51 : AH) => k_52 (0 : Int) h_51) (fun k_51 : AH → Prop => ((¬ r34 = 0) → k_51  h34) ∧ ((r34 = 0) → ((a4 = (32 : Int)) → k_51  h34) ∧ ((¬ (a4 = (32 : Int))) → k_52 (2 : Int) h34))))) ∧ ((t0_20 = 0) → k_52 (1 : Int) h_20))) (fun k_20 : Int → AH → Prop => jn (fun  (h_19 : AH) => k_20 (0 : Int) h_19) (fun k_19 : AH → Prop => ((r1 = 0) → k_19  h1) ∧ ((¬ (r1 = 0)) → w_X7_isCell zz a2 a3 h1 (fun (r9 : Int) (h9 : AH) => ((r9 = 0) → k_19  h9) ∧ ((¬ (r9 = 0)) → k_20 (1 : Int) h9))))))
set_option maxRecDepth 100000 in
set_option maxHeartbeats 4000000 in
theorem met_X7_put (G : GG) (l : Launch) : ∀ (As : List Value) (a0 : Nat) (a1 : Int) (a2 : Int) (a3 : Int) (a4 : Int) (h : AH) (Q : Int → AH → Prop), As.map ab = List.map some ([vR a0, vI a1, vI a2, vI a3, vI a4] : List AV) → w_X7_put G.2.2 a0 a1 a2 a3 a4 h Q → Met l yX7_put (.code yX7_put cX7_put 7 (some .int) :: xTb) ({ frames := 2, cells := 0, slots := 0, locals := 44 } : Room) (PcA G As h) (QG G (oI Q)) 0 0 (frA G) := by
  intro As a0 a1 a2 a3 a4 h Q hA hw
  refine met_of hA (by decide) (Nat.le_of_ble_eq_true rfl) (fun p e s m args below meth c C hml hr hnm => ?_)
  unfold w_X7_put at hw
  refine aw_iload_n (pc := 0) C dX7_put_0 rfl rfl ?_
  refine aw_callS (pc := 1) (as := [vI a1]) C (fun As hA => met_X7_isText G l As a1 _ _ hA hw) tw897 tw898 tw10 tw899 ⟨rfl, rfl⟩ ⟨by decide, by decide, pd_X7_isText⟩ ⟨Nat.le_of_ble_eq_true rfl, Nat.le_of_ble_eq_true rfl⟩ ⟨Nat.zero_le _, Nat.zero_le _⟩ (Nat.le_of_ble_eq_true rfl) dX7_put_1 rfl (fun v9 h1 hq9 => ?_)
  obtain ⟨r1, rfl, hw⟩ := hq9
  obtain ⟨k_20, hk_20, hw⟩ := jn_out hw
  have J_20 : ∀ (t0_20 : Int) (h_20 : AH), k_20 t0_20 h_20 → AW G p l e ({ frames := 2, cells := 0, slots := 0, locals := 44 } : Room) s m args below meth c 0 0 (MQ below (QG G (oI Q)) args s 0 0 (frA G)) 20 (eOf [(0, vR a0), (1, vI a1), (2, vI a2), (3, vI a3), (4, vI a4)]) [vI t0_20] h_20 := by
    intro t0_20 h_20 hw
    rw [hk_20] at hw
    refine aw_istore (pc := 20) C dX7_put_20 (by rw [hml]; decide) ?_
    refine aw_aload_n (pc := 22) C dX7_put_22 rfl rfl ?_
    refine aw_iload (pc := 23) C dX7_put_23 rfl ?_
    obtain ⟨k_52, hk_52, hw⟩ := jn_out hw
    have J_52 : ∀ (t1_52 : Int) (h_52 : AH), k_52 t1_52 h_52 → AW G p l e ({ frames := 2, cells := 0, slots := 0, locals := 44 } : Room) s m args below meth c 0 0 (MQ below (QG G (oI Q)) args s 0 0 (frA G)) 52 (eOf [(0, vR a0), (1, vI a1), (2, vI a2), (3, vI a3), (4, vI a4)]) [vI t1_52, vR a0] h_52 := by
      intro t1_52 h_52 hw
      rw [hk_52] at hw
      obtain ⟨hp9, hw⟩ := hw
      refine aw_putI (pc := 52) C (ci := 7) (k := 0) ci7 (by decide) tw792 (Or.inl rfl) dX7_put_52 rfl hp9 (aw_nmH (fun h52 e9 => ?_))
      have hw := hw h52 e9
      refine aw_aload_n (pc := 55) C dX7_put_55 rfl rfl ?_
      obtain ⟨hp9, hw⟩ := hw
      refine aw_getI (pc := 56) C (ci := 7) (k := 0) ci7 (by decide) tw792 dX7_put_56 rfl hp9 ?_
      refine aw_if_le (pc := 59) (tgt := 64) C dX7_put_59 (by decide) (fun hc9 => ?_) (fun hc9 => ?_)
      · have hw := hw.1 hc9
        refine aw_bipush (pc := 64) C dX7_put_64 (i := (80 : Int)) (by decide) ?_
        refine aw_iload_n (pc := 66) C dX7_put_66 rfl rfl ?_
        obtain ⟨hp9, hw⟩ := hw
        refine aw_imul (pc := 67) C dX7_put_67 hp9 ?_
        refine aw_bipush (pc := 68) C dX7_put_68 (i := (16 : Int)) (by decide) ?_
        refine aw_iload_n (pc := 70) C dX7_put_70 rfl rfl ?_
        obtain ⟨hp9, hw⟩ := hw
        refine aw_imul (pc := 71) C dX7_put_71 hp9 ?_
        obtain ⟨hp9, hw⟩ := hw
        refine aw_iadd (pc := 72) C dX7_put_72 hp9 ?_
        refine aw_iload_n (pc := 73) C dX7_put_73 rfl rfl ?_
        obtain ⟨hp9, hw⟩ := hw
        refine aw_iadd (pc := 74) C dX7_put_74 hp9 ?_
        refine aw_nmI (fun x6_75 e9 => ?_)
        have hw := hw x6_75 e9
        refine aw_istore (pc := 75) C dX7_put_75 (by rw [hml]; decide) ?_
        refine aw_aload_n (pc := 77) C dX7_put_77 rfl rfl ?_
        refine aw_iload (pc := 78) C dX7_put_78 rfl ?_
        refine aw_bipush (pc := 80) C dX7_put_80 (i := (32 : Int)) (by decide) ?_
        obtain ⟨k_112, hk_112, hw⟩ := jn_out hw
        have J_112 : ∀ (t1_112 : Int) (h_112 : AH), k_112 t1_112 h_112 → AW G p l e ({ frames := 2, cells := 0, slots := 0, locals := 44 } : Room) s m args below meth c 0 0 (MQ below (QG G (oI Q)) args s 0 0 (frA G)) 112 (eOf [(0, vR a0), (4, vI a4), (6, vI x6_75)]) [vI t1_112, vR a0] h_112 := by
          intro t1_112 h_112 hw
          rw [hk_112] at hw
          obtain ⟨hp9, hw⟩ := hw
          refine aw_putI (pc := 112) C (ci := 7) (k := 0) ci7 (by decide) tw792 (Or.inl rfl) dX7_put_112 rfl hp9 (aw_nmH (fun h112 e9 => ?_))
          have hw := hw h112 e9
          refine aw_aload_n (pc := 115) C dX7_put_115 rfl rfl ?_
          obtain ⟨hp9, hw⟩ := hw
          refine aw_getI (pc := 116) C (ci := 7) (k := 0) ci7 (by decide) tw792 dX7_put_116 rfl hp9 ?_
          obtain ⟨k_134, hk_134, hw⟩ := jn_out hw
          have J_134 : ∀ (t0_134 : Int) (h_134 : AH), k_134 t0_134 h_134 → AW G p l e ({ frames := 2, cells := 0, slots := 0, locals := 44 } : Room) s m args below meth c 0 0 (MQ below (QG G (oI Q)) args s 0 0 (frA G)) 134 (eOf []) [vI t0_134] h_134 := by
            intro t0_134 h_134 hw
            rw [hk_134] at hw
            exact aw_iret (pc := 134) C hr dX7_put_134 ⟨Nat.le_of_ble_eq_true rfl, Nat.le_of_ble_eq_true rfl⟩ ⟨_, rfl, hw⟩
          refine aw_if_le (pc := 119) (tgt := 126) C dX7_put_119 (by decide) (fun hc9 => ?_) (fun hc9 => ?_)
          · have hw := hw.1 hc9
            refine aw_aload_n (pc := 126) C dX7_put_126 rfl rfl ?_
            refine aw_iload (pc := 127) C dX7_put_127 rfl ?_
            refine aw_iload (pc := 129) C dX7_put_129 rfl ?_
            obtain ⟨hp9, hw⟩ := hw
            refine aw_callV (pc := 131) (as := [vI x6_75, vI a4]) C ci7 (fun As hA => met_X7_replaced G l As a0 x6_75 a4 _ _ hA hw) tw889 tw891 (tbp 37 (n := 21) (by decide +kernel)) tw10 tw892 ⟨rfl, rfl⟩ ⟨rfl, by decide, by decide, pd_X7_replaced⟩ ⟨Nat.le_of_ble_eq_true rfl, Nat.le_of_ble_eq_true rfl⟩ ⟨Nat.zero_le _, Nat.zero_le _⟩ (Nat.le_of_ble_eq_true rfl) dX7_put_131 rfl hp9 (fun v9 h131 hq9 => ?_)
            obtain ⟨r131, rfl, hw⟩ := hq9
            refine aw_sub [] trivial ?_
            exact J_134 _ _ hw
          · have hw := hw.2 hc9
            refine aw_iconst (pc := 122) C dX7_put_122 (i := (0 : Int)) (by decide) ?_
            refine aw_goto (pc := 123) (tgt := 134) C dX7_put_123 (by decide) ?_
            refine aw_sub [] trivial ?_
            exact J_134 _ _ hw
        obtain ⟨k_111, hk_111, hw⟩ := jn_out hw
        have J_111 : ∀  (h_111 : AH), k_111  h_111 → AW G p l e ({ frames := 2, cells := 0, slots := 0, locals := 44 } : Room) s m args below meth c 0 0 (MQ below (QG G (oI Q)) args s 0 0 (frA G)) 111 (eOf [(0, vR a0), (4, vI a4), (6, vI x6_75)]) [vR a0] h_111 := by
          intro  h_111 hw
          rw [hk_111] at hw
          refine aw_iconst (pc := 111) C dX7_put_111 (i := (0 : Int)) (by decide) ?_
          refine aw_sub [(0, vR a0), (4, vI a4), (6, vI x6_75)] ⟨rfl, rfl, rfl, trivial⟩ ?_
          exact J_112 _ _ hw
        refine aw_icmp_eq (pc := 82) (tgt := 111) C dX7_put_82 (by decide) (fun hc9 => ?_) (fun hc9 => ?_)
        · have hw := hw.1 hc9
          refine aw_sub [(0, vR a0), (4, vI a4), (6, vI x6_75)] ⟨rfl, rfl, rfl, trivial⟩ ?_
          exact J_111  _ hw
        · have hw := hw.2 hc9
          refine aw_aload_n (pc := 85) C dX7_put_85 rfl rfl ?_
          obtain ⟨hp9, b86, hb9, hw⟩ := hw
          refine aw_getR (pc := 86) C (ci := 7) (k := 1) ci7 (by decide) tw793 dX7_put_86 rfl hp9 hb9 ?_
          refine aw_iload (pc := 89) C dX7_put_89 rfl ?_
          obtain ⟨⟨k9, hp9⟩, hw⟩ := hw
          refine aw_iald (pc := 91) C dX7_put_91 hp9 ?_
          refine aw_bipush (pc := 92) C dX7_put_92 (i := (32 : Int)) (by decide) ?_
          refine aw_icmp_ne (pc := 94) (tgt := 111) C dX7_put_94 (by decide) (fun hc9 => ?_) (fun hc9 => ?_)
          · have hw := hw.1 hc9
            refine aw_sub [(0, vR a0), (4, vI a4), (6, vI x6_75)] ⟨rfl, rfl, rfl, trivial⟩ ?_
            exact J_111  _ hw
          · have hw := hw.2 hc9
            refine aw_aload_n (pc := 97) C dX7_put_97 rfl rfl ?_
            refine aw_iload_n (pc := 98) C dX7_put_98 rfl rfl ?_
            obtain ⟨hp9, hw⟩ := hw
            refine aw_callV (pc := 99) (as := [vI a1]) C ci7 (fun As hA => met_X7_lettersOf G l As a0 a1 _ _ hA hw) tw872 tw874 (tbp 36 (n := 21) (by decide +kernel)) tw10 tw875 ⟨rfl, rfl⟩ ⟨rfl, by decide, by decide, pd_X7_lettersOf⟩ ⟨Nat.le_of_ble_eq_true rfl, Nat.le_of_ble_eq_true rfl⟩ ⟨Nat.zero_le _, Nat.zero_le _⟩ (Nat.le_of_ble_eq_true rfl) dX7_put_99 rfl hp9 (fun v9 h99 hq9 => ?_)
            obtain ⟨r99, rfl, hw⟩ := hq9
            refine aw_bipush (pc := 102) C dX7_put_102 (i := (40 : Int)) (by decide) ?_
            refine aw_icmp_ne (pc := 104) (tgt := 111) C dX7_put_104 (by decide) (fun hc9 => ?_) (fun hc9 => ?_)
            · have hw := hw.1 hc9
              refine aw_sub [(0, vR a0), (4, vI a4), (6, vI x6_75)] ⟨rfl, rfl, rfl, trivial⟩ ?_
              exact J_111  _ hw
            · have hw := hw.2 hc9
              refine aw_iconst (pc := 107) C dX7_put_107 (i := (3 : Int)) (by decide) ?_
              refine aw_goto (pc := 108) (tgt := 112) C dX7_put_108 (by decide) ?_
              refine aw_sub [(0, vR a0), (4, vI a4), (6, vI x6_75)] ⟨rfl, rfl, rfl, trivial⟩ ?_
              exact J_112 _ _ hw
      · have hw := hw.2 hc9
        refine aw_iconst (pc := 62) C dX7_put_62 (i := (0 : Int)) (by decide) ?_
        exact aw_iret (pc := 63) C hr dX7_put_63 ⟨Nat.le_of_ble_eq_true rfl, Nat.le_of_ble_eq_true rfl⟩ ⟨_, rfl, hw⟩
    refine aw_if_ne (pc := 25) (tgt := 32) C dX7_put_25 (by decide) (fun hc9 => ?_) (fun hc9 => ?_)
    · have hw := hw.1 hc9
      refine aw_iload (pc := 32) C dX7_put_32 rfl ?_
      refine aw_callS (pc := 34) (as := [vI a4]) C (fun As hA => met_X7_isLetter G l As a4 _ _ hA hw) tw903 tw904 tw10 tw905 ⟨rfl, rfl⟩ ⟨by decide, by decide, pd_X7_isLetter⟩ ⟨Nat.le_of_ble_eq_true rfl, Nat.le_of_ble_eq_true rfl⟩ ⟨Nat.zero_le _, Nat.zero_le _⟩ (Nat.le_of_ble_eq_true rfl) dX7_put_34 rfl (fun v9 h34 hq9 => ?_)
      obtain ⟨r34, rfl, hw⟩ := hq9
      obtain ⟨k_51, hk_51, hw⟩ := jn_out hw
      have J_51 : ∀  (h_51 : AH), k_51  h_51 → AW G p l e ({ frames := 2, cells := 0, slots := 0, locals := 44 } : Room) s m args below meth c 0 0 (MQ below (QG G (oI Q)) args s 0 0 (frA G)) 51 (eOf [(0, vR a0), (1, vI a1), (2, vI a2), (3, vI a3), (4, vI a4)]) [vR a0] h_51 := by
        intro  h_51 hw
        rw [hk_51] at hw
        refine aw_iconst (pc := 51) C dX7_put_51 (i := (0 : Int)) (by decide) ?_
        refine aw_sub [(0, vR a0), (1, vI a1), (2, vI a2), (3, vI a3), (4, vI a4)] ⟨rfl, rfl, rfl, rfl, rfl, trivial⟩ ?_
        exact J_52 _ _ hw
      refine aw_if_ne (pc := 37) (tgt := 51) C dX7_put_37 (by decide) (fun hc9 => ?_) (fun hc9 => ?_)
      · have hw := hw.1 hc9
        refine aw_sub [(0, vR a0), (1, vI a1), (2, vI a2), (3, vI a3), (4, vI a4)] ⟨rfl, rfl, rfl, rfl, rfl, trivial⟩ ?_
        exact J_51  _ hw
      · have hw := hw.2 hc9
        refine aw_iload (pc := 40) C dX7_put_40 rfl ?_
        refine aw_bipush (pc := 42) C dX7_put_42 (i := (32 : Int)) (by decide) ?_
        refine aw_icmp_eq (pc := 44) (tgt := 51) C dX7_put_44 (by decide) (fun hc9 => ?_) (fun hc9 => ?_)
        · have hw := hw.1 hc9
          refine aw_sub [(0, vR a0), (1, vI a1), (2, vI a2), (3, vI a3), (4, vI a4)] ⟨rfl, rfl, rfl, rfl, rfl, trivial⟩ ?_
          exact J_51  _ hw
        · have hw := hw.2 hc9
          refine aw_iconst (pc := 47) C dX7_put_47 (i := (2 : Int)) (by decide) ?_
          refine aw_goto (pc := 48) (tgt := 52) C dX7_put_48 (by decide) ?_
          refine aw_sub [(0, vR a0), (1, vI a1), (2, vI a2), (3, vI a3), (4, vI a4)] ⟨rfl, rfl, rfl, rfl, rfl, trivial⟩ ?_
          exact J_52 _ _ hw
    · have hw := hw.2 hc9
      refine aw_iconst (pc := 28) C dX7_put_28 (i := (1 : Int)) (by decide) ?_
      refine aw_goto (pc := 29) (tgt := 52) C dX7_put_29 (by decide) ?_
      refine aw_sub [(0, vR a0), (1, vI a1), (2, vI a2), (3, vI a3), (4, vI a4)] ⟨rfl, rfl, rfl, rfl, rfl, trivial⟩ ?_
      exact J_52 _ _ hw
  obtain ⟨k_19, hk_19, hw⟩ := jn_out hw
  have J_19 : ∀  (h_19 : AH), k_19  h_19 → AW G p l e ({ frames := 2, cells := 0, slots := 0, locals := 44 } : Room) s m args below meth c 0 0 (MQ below (QG G (oI Q)) args s 0 0 (frA G)) 19 (eOf [(0, vR a0), (1, vI a1), (2, vI a2), (3, vI a3), (4, vI a4)]) [] h_19 := by
    intro  h_19 hw
    rw [hk_19] at hw
    refine aw_iconst (pc := 19) C dX7_put_19 (i := (0 : Int)) (by decide) ?_
    refine aw_sub [(0, vR a0), (1, vI a1), (2, vI a2), (3, vI a3), (4, vI a4)] ⟨rfl, rfl, rfl, rfl, rfl, trivial⟩ ?_
    exact J_20 _ _ hw
  refine aw_if_eq (pc := 4) (tgt := 19) C dX7_put_4 (by decide) (fun hc9 => ?_) (fun hc9 => ?_)
  · have hw := hw.1 hc9
    refine aw_sub [(0, vR a0), (1, vI a1), (2, vI a2), (3, vI a3), (4, vI a4)] ⟨rfl, rfl, rfl, rfl, rfl, trivial⟩ ?_
    exact J_19  _ hw
  · have hw := hw.2 hc9
    refine aw_iload_n (pc := 7) C dX7_put_7 rfl rfl ?_
    refine aw_iload_n (pc := 8) C dX7_put_8 rfl rfl ?_
    refine aw_callS (pc := 9) (as := [vI a2, vI a3]) C (fun As hA => met_X7_isCell G l As a2 a3 _ _ hA hw) tw900 tw901 tw10 tw902 ⟨rfl, rfl⟩ ⟨by decide, by decide, pd_X7_isCell⟩ ⟨Nat.le_of_ble_eq_true rfl, Nat.le_of_ble_eq_true rfl⟩ ⟨Nat.zero_le _, Nat.zero_le _⟩ (Nat.le_of_ble_eq_true rfl) dX7_put_9 rfl (fun v9 h9 hq9 => ?_)
    obtain ⟨r9, rfl, hw⟩ := hq9
    refine aw_if_eq (pc := 12) (tgt := 19) C dX7_put_12 (by decide) (fun hc9 => ?_) (fun hc9 => ?_)
    · have hw := hw.1 hc9
      refine aw_sub [(0, vR a0), (1, vI a1), (2, vI a2), (3, vI a3), (4, vI a4)] ⟨rfl, rfl, rfl, rfl, rfl, trivial⟩ ?_
      exact J_19  _ hw
    · have hw := hw.2 hc9
      refine aw_iconst (pc := 15) C dX7_put_15 (i := (1 : Int)) (by decide) ?_
      refine aw_goto (pc := 16) (tgt := 20) C dX7_put_16 (by decide) ?_
      refine aw_sub [(0, vR a0), (1, vI a1), (2, vI a2), (3, vI a3), (4, vI a4)] ⟨rfl, rfl, rfl, rfl, rfl, trivial⟩ ?_
      exact J_20 _ _ hw
theorem dX7_swap_0 : decode cX7_swap 0 = .ok (.aload_n 0, 1) := by decide +kernel
theorem dX7_swap_1 : decode cX7_swap 1 = .ok (.iconst 0, 1) := by decide +kernel
theorem dX7_swap_2 : decode cX7_swap 2 = .ok (.putfield 61, 3) := by decide +kernel
theorem dX7_swap_5 : decode cX7_swap 5 = .ok (.aload_n 0, 1) := by decide +kernel
theorem dX7_swap_6 : decode cX7_swap 6 = .ok (.invokevirtual 146, 3) := by decide +kernel
theorem dX7_swap_9 : decode cX7_swap 9 = .ok (.iconst 0, 1) := by decide +kernel
theorem dX7_swap_10 : decode cX7_swap 10 = .ok (.istore_n 1, 1) := by decide +kernel
theorem dX7_swap_11 : decode cX7_swap 11 = .ok (.iload_n 1, 1) := by decide +kernel
theorem dX7_swap_12 : decode cX7_swap 12 = .ok (.bipush 80, 2) := by decide +kernel
theorem dX7_swap_14 : decode cX7_swap 14 = .ok (.if_icmp .ge 41, 3) := by decide +kernel
theorem dX7_swap_17 : decode cX7_swap 17 = .ok (.aload_n 0, 1) := by decide +kernel
theorem dX7_swap_18 : decode cX7_swap 18 = .ok (.getfield 7, 3) := by decide +kernel
theorem dX7_swap_21 : decode cX7_swap 21 = .ok (.iload_n 1, 1) := by decide +kernel
theorem dX7_swap_22 : decode cX7_swap 22 = .ok (.iaload, 1) := by decide +kernel
theorem dX7_swap_23 : decode cX7_swap 23 = .ok (.istore_n 2, 1) := by decide +kernel
theorem dX7_swap_24 : decode cX7_swap 24 = .ok (.aload_n 0, 1) := by decide +kernel
theorem dX7_swap_25 : decode cX7_swap 25 = .ok (.getfield 7, 3) := by decide +kernel
theorem dX7_swap_28 : decode cX7_swap 28 = .ok (.iload_n 1, 1) := by decide +kernel
theorem dX7_swap_29 : decode cX7_swap 29 = .ok (.aload_n 0, 1) := by decide +kernel
theorem dX7_swap_30 : decode cX7_swap 30 = .ok (.getfield 7, 3) := by decide +kernel
theorem dX7_swap_33 : decode cX7_swap 33 = .ok (.bipush 80, 2) := by decide +kernel
theorem dX7_swap_35 : decode cX7_swap 35 = .ok (.iload_n 1, 1) := by decide +kernel
theorem dX7_swap_36 : decode cX7_swap 36 = .ok (.iadd, 1) := by decide +kernel
theorem dX7_swap_37 : decode cX7_swap 37 = .ok (.iaload, 1) := by decide +kernel
theorem dX7_swap_38 : decode cX7_swap 38 = .ok (.iastore, 1) := by decide +kernel
theorem dX7_swap_39 : decode cX7_swap 39 = .ok (.aload_n 0, 1) := by decide +kernel
theorem dX7_swap_40 : decode cX7_swap 40 = .ok (.getfield 7, 3) := by decide +kernel
theorem dX7_swap_43 : decode cX7_swap 43 = .ok (.bipush 80, 2) := by decide +kernel
theorem dX7_swap_45 : decode cX7_swap 45 = .ok (.iload_n 1, 1) := by decide +kernel
theorem dX7_swap_46 : decode cX7_swap 46 = .ok (.iadd, 1) := by decide +kernel
theorem dX7_swap_47 : decode cX7_swap 47 = .ok (.iload_n 2, 1) := by decide +kernel
theorem dX7_swap_48 : decode cX7_swap 48 = .ok (.iastore, 1) := by decide +kernel
theorem dX7_swap_49 : decode cX7_swap 49 = .ok (.iinc 1 1, 3) := by decide +kernel
theorem dX7_swap_52 : decode cX7_swap 52 = .ok (.goto (-41), 3) := by decide +kernel
theorem dX7_swap_55 : decode cX7_swap 55 = .ok (.aload_n 0, 1) := by decide +kernel
theorem dX7_swap_56 : decode cX7_swap 56 = .ok (.invokevirtual 170, 3) := by decide +kernel
theorem dX7_swap_59 : decode cX7_swap 59 = .ok (.aload_n 0, 1) := by decide +kernel
theorem dX7_swap_60 : decode cX7_swap 60 = .ok (.invokevirtual 173, 3) := by decide +kernel
theorem dX7_swap_63 : decode cX7_swap 63 = .ok (.ireturn, 1) := by decide +kernel
theorem pd_X7_swap : (parseMethodDescriptor yX7_swap.desc).map (fun d => d.parameters.length) = some 0 := by decide +kernel
def w_X7_swap (zz : Nat → Nat) (a0 : Nat) (h : AH) (Q : Int → AH → Prop) : Prop := okP h a0 7 ∧ ∀ h2 : AH, h2 = sfI h a0 0 (0 : Int) → okA h2 a0 7 ∧ w_X7_save zz a0 h2 (fun  (h6 : AH) => ∃ I_11 : Nat → Int → AH → Prop, (∃ n, I_11 n (0 : Int) h6) ∧ ∀ (n_11 : Nat) (x1_11 : Int) (h_11 : AH), I_11 n_11 x1_11 h_11 → ((((80 : Int) ≤ x1_11) → okA h_11 a0 7 ∧ w_X7_lay zz a0 h_11 (fun  (h56 : AH) => okA h56 a0 7 ∧ w_X7_frames zz a0 h56 (fun (r60 : Int) (h60 : AH) => Q r60 h60))) ∧ ((¬ ((80 : Int) ≤ x1_11)) → okA h_11 a0 7 ∧ ∃ b18 : Nat, hfR h_11 a0 1 = some b18 ∧ okI h_11 b18 x1_11 ∧ ∀ x2_23 : Int, x2_23 = (haI h_11 b18 x1_11) → okA h_11 a0 7 ∧ ∃ b25 : Nat, hfR h_11 a0 1 = some b25 ∧ okA h_11 a0 7 ∧ ∃ b30 : Nat, hfR h_11 a0 1 = some b30 ∧ inR ((80 : Int) + x1_11) ∧ okI h_11 b30 ((80 : Int) + x1_11) ∧ okW h_11 b25 x1_11 ∧ ∀ h38 : AH, h38 = saI h_11 b25 (u1 (haI h_11 b25) x1_11 (haI h_11 b30 ((80 : Int) + x1_11))) → okA h38 a0 7 ∧ ∃ b40 : Nat, hfR h38 a0 1 = some b40 ∧ inR ((80 : Int) + x1_11) ∧ okW h38 b40 ((80 : Int) + x1_11) ∧ ∀ h48 : AH, h48 = saI h38 b40 (u1 (haI h38 b40) ((80 : Int) + x1_11) x2_23) → inR (x1_11 + 1) ∧ ∀ x1_49 : Int, x1_49 = (x1_11 + 1) → ∃ m, m < n_11 ∧ I_11 m x1_49 h48)))
set_option maxRecDepth 100000 in
set_option maxHeartbeats 4000000 in
theorem met_X7_swap (G : GG) (l : Launch) : ∀ (As : List Value) (a0 : Nat) (h : AH) (Q : Int → AH → Prop), As.map ab = List.map some ([vR a0] : List AV) → w_X7_swap G.2.2 a0 h Q → Met l yX7_swap (.code yX7_swap cX7_swap 3 (some .int) :: xTb) ({ frames := 5, cells := 0, slots := 0, locals := 117 } : Room) (PcA G As h) (QG G (oI Q)) 0 0 (frA G) := by
  intro As a0 h Q hA hw
  refine met_of hA (by decide) (Nat.le_of_ble_eq_true rfl) (fun p e s m args below meth c C hml hr hnm => ?_)
  unfold w_X7_swap at hw
  refine aw_aload_n (pc := 0) C dX7_swap_0 rfl rfl ?_
  refine aw_iconst (pc := 1) C dX7_swap_1 (i := (0 : Int)) (by decide) ?_
  obtain ⟨hp9, hw⟩ := hw
  refine aw_putI (pc := 2) C (ci := 7) (k := 0) ci7 (by decide) tw792 (Or.inl rfl) dX7_swap_2 rfl hp9 (aw_nmH (fun h2 e9 => ?_))
  have hw := hw h2 e9
  refine aw_aload_n (pc := 5) C dX7_swap_5 rfl rfl ?_
  obtain ⟨hp9, hw⟩ := hw
  refine aw_callV (pc := 6) (as := []) C ci7 (fun As hA => met_X7_save G l As a0 _ _ hA hw) tw868 tw870 (tbp 35 (n := 21) (by decide +kernel)) tw10 tw871 ⟨rfl, rfl⟩ ⟨rfl, by decide, by decide, pd_X7_save⟩ ⟨Nat.le_of_ble_eq_true rfl, Nat.le_of_ble_eq_true rfl⟩ ⟨Nat.zero_le _, Nat.zero_le _⟩ (Nat.le_of_ble_eq_true rfl) dX7_swap_6 rfl hp9 (fun v9 h6 hq9 => ?_)
  obtain ⟨rfl, hw⟩ := hq9
  refine aw_iconst (pc := 9) C dX7_swap_9 (i := (0 : Int)) (by decide) ?_
  refine aw_istore_n (pc := 10) C dX7_swap_10 rfl (by rw [hml]; decide) ?_
  obtain ⟨I_11, ⟨n9, hi9⟩, hst9⟩ := hw
  have L_11 : ∀ (n_11 : Nat) (x1_11 : Int) (h_11 : AH), I_11 n_11 x1_11 h_11 → AW G p l e ({ frames := 5, cells := 0, slots := 0, locals := 117 } : Room) s m args below meth c 0 0 (MQ below (QG G (oI Q)) args s 0 0 (frA G)) 11 (eOf [(0, vR a0), (1, vI x1_11)]) [] h_11 := by
    intro n_11
    induction n_11 using Nat.strongRecOn with
    | _ n_11 ih_11 =>
    intro x1_11 h_11 hi9
    have hw := hst9 n_11 x1_11 h_11 hi9
    refine aw_iload_n (pc := 11) C dX7_swap_11 rfl rfl ?_
    refine aw_bipush (pc := 12) C dX7_swap_12 (i := (80 : Int)) (by decide) ?_
    refine aw_icmp_ge (pc := 14) (tgt := 55) C dX7_swap_14 (by decide) (fun hc9 => ?_) (fun hc9 => ?_)
    · have hw := hw.1 hc9
      refine aw_aload_n (pc := 55) C dX7_swap_55 rfl rfl ?_
      obtain ⟨hp9, hw⟩ := hw
      refine aw_callV (pc := 56) (as := []) C ci7 (fun As hA => met_X7_lay G l As a0 _ _ hA hw) tw910 tw912 (tbp 38 (n := 21) (by decide +kernel)) tw10 tw913 ⟨rfl, rfl⟩ ⟨rfl, by decide, by decide, pd_X7_lay⟩ ⟨Nat.le_of_ble_eq_true rfl, Nat.le_of_ble_eq_true rfl⟩ ⟨Nat.zero_le _, Nat.zero_le _⟩ (Nat.le_of_ble_eq_true rfl) dX7_swap_56 rfl hp9 (fun v9 h56 hq9 => ?_)
      obtain ⟨rfl, hw⟩ := hq9
      refine aw_aload_n (pc := 59) C dX7_swap_59 rfl rfl ?_
      obtain ⟨hp9, hw⟩ := hw
      refine aw_callV (pc := 60) (as := []) C ci7 (fun As hA => met_X7_frames G l As a0 _ _ hA hw) tw985 tw987 (tbp 56 (n := 21) (by decide +kernel)) tw10 tw988 ⟨rfl, rfl⟩ ⟨rfl, by decide, by decide, pd_X7_frames⟩ ⟨Nat.le_of_ble_eq_true rfl, Nat.le_of_ble_eq_true rfl⟩ ⟨Nat.zero_le _, Nat.zero_le _⟩ (Nat.le_of_ble_eq_true rfl) dX7_swap_60 rfl hp9 (fun v9 h60 hq9 => ?_)
      obtain ⟨r60, rfl, hw⟩ := hq9
      exact aw_iret (pc := 63) C hr dX7_swap_63 ⟨Nat.le_of_ble_eq_true rfl, Nat.le_of_ble_eq_true rfl⟩ ⟨_, rfl, hw⟩
    · have hw := hw.2 hc9
      refine aw_aload_n (pc := 17) C dX7_swap_17 rfl rfl ?_
      obtain ⟨hp9, b18, hb9, hw⟩ := hw
      refine aw_getR (pc := 18) C (ci := 7) (k := 1) ci7 (by decide) tw793 dX7_swap_18 rfl hp9 hb9 ?_
      refine aw_iload_n (pc := 21) C dX7_swap_21 rfl rfl ?_
      obtain ⟨⟨k9, hp9⟩, hw⟩ := hw
      refine aw_iald (pc := 22) C dX7_swap_22 hp9 ?_
      refine aw_nmI (fun x2_23 e9 => ?_)
      have hw := hw x2_23 e9
      refine aw_istore_n (pc := 23) C dX7_swap_23 rfl (by rw [hml]; decide) ?_
      refine aw_aload_n (pc := 24) C dX7_swap_24 rfl rfl ?_
      obtain ⟨hp9, b25, hb9, hw⟩ := hw
      refine aw_getR (pc := 25) C (ci := 7) (k := 1) ci7 (by decide) tw793 dX7_swap_25 rfl hp9 hb9 ?_
      refine aw_iload_n (pc := 28) C dX7_swap_28 rfl rfl ?_
      refine aw_aload_n (pc := 29) C dX7_swap_29 rfl rfl ?_
      obtain ⟨hp9, b30, hb9, hw⟩ := hw
      refine aw_getR (pc := 30) C (ci := 7) (k := 1) ci7 (by decide) tw793 dX7_swap_30 rfl hp9 hb9 ?_
      refine aw_bipush (pc := 33) C dX7_swap_33 (i := (80 : Int)) (by decide) ?_
      refine aw_iload_n (pc := 35) C dX7_swap_35 rfl rfl ?_
      obtain ⟨hp9, hw⟩ := hw
      refine aw_iadd (pc := 36) C dX7_swap_36 hp9 ?_
      obtain ⟨⟨k9, hp9⟩, hw⟩ := hw
      refine aw_iald (pc := 37) C dX7_swap_37 hp9 ?_
      obtain ⟨⟨k9, hp9⟩, hw⟩ := hw
      refine aw_iast (pc := 38) C dX7_swap_38 hp9 (aw_nmH (fun h38 e9 => ?_))
      have hw := hw h38 e9
      refine aw_aload_n (pc := 39) C dX7_swap_39 rfl rfl ?_
      obtain ⟨hp9, b40, hb9, hw⟩ := hw
      refine aw_getR (pc := 40) C (ci := 7) (k := 1) ci7 (by decide) tw793 dX7_swap_40 rfl hp9 hb9 ?_
      refine aw_bipush (pc := 43) C dX7_swap_43 (i := (80 : Int)) (by decide) ?_
      refine aw_iload_n (pc := 45) C dX7_swap_45 rfl rfl ?_
      obtain ⟨hp9, hw⟩ := hw
      refine aw_iadd (pc := 46) C dX7_swap_46 hp9 ?_
      refine aw_iload_n (pc := 47) C dX7_swap_47 rfl rfl ?_
      obtain ⟨⟨k9, hp9⟩, hw⟩ := hw
      refine aw_iast (pc := 48) C dX7_swap_48 hp9 (aw_nmH (fun h48 e9 => ?_))
      have hw := hw h48 e9
      obtain ⟨hp9, hw⟩ := hw
      refine aw_iincN (pc := 49) C dX7_swap_49 (k := 1) (by decide) rfl (by rw [hml]; decide) hp9 (fun x1_49 e9 => ?_)
      have hw := hw x1_49 e9
      refine aw_goto (pc := 52) (tgt := 11) C dX7_swap_52 (by decide) ?_
      obtain ⟨m9, hm9, hw⟩ := hw
      refine aw_sub [(0, vR a0), (1, vI x1_49)] ⟨rfl, rfl, trivial⟩ ?_
      exact ih_11 m9 hm9 _ _ hw
  refine aw_sub [(0, vR a0), (1, vI (0 : Int))] ⟨rfl, rfl, trivial⟩ ?_
  exact L_11 n9 _ _ hi9
theorem dX7_append_0 : decode cX7_append 0 = .ok (.aload_n 0, 1) := by decide +kernel
theorem dX7_append_1 : decode cX7_append 1 = .ok (.iload_n 1, 1) := by decide +kernel
theorem dX7_append_2 : decode cX7_append 2 = .ok (.bipush 33, 2) := by decide +kernel
theorem dX7_append_4 : decode cX7_append 4 = .ok (.bipush 126, 2) := by decide +kernel
theorem dX7_append_6 : decode cX7_append 6 = .ok (.invokestatic 65, 3) := by decide +kernel
theorem dX7_append_9 : decode cX7_append 9 = .ok (.ifCond .ne 7, 3) := by decide +kernel
theorem dX7_append_12 : decode cX7_append 12 = .ok (.iconst 1, 1) := by decide +kernel
theorem dX7_append_13 : decode cX7_append 13 = .ok (.goto 17, 3) := by decide +kernel
theorem dX7_append_16 : decode cX7_append 16 = .ok (.aload_n 0, 1) := by decide +kernel
theorem dX7_append_17 : decode cX7_append 17 = .ok (.getfield 176, 3) := by decide +kernel
theorem dX7_append_20 : decode cX7_append 20 = .ok (.bipush 60, 2) := by decide +kernel
theorem dX7_append_22 : decode cX7_append 22 = .ok (.if_icmp .ne 7, 3) := by decide +kernel
theorem dX7_append_25 : decode cX7_append 25 = .ok (.iconst 2, 1) := by decide +kernel
theorem dX7_append_26 : decode cX7_append 26 = .ok (.goto 4, 3) := by decide +kernel
theorem dX7_append_29 : decode cX7_append 29 = .ok (.iconst 0, 1) := by decide +kernel
theorem dX7_append_30 : decode cX7_append 30 = .ok (.putfield 61, 3) := by decide +kernel
theorem dX7_append_33 : decode cX7_append 33 = .ok (.aload_n 0, 1) := by decide +kernel
theorem dX7_append_34 : decode cX7_append 34 = .ok (.getfield 61, 3) := by decide +kernel
theorem dX7_append_37 : decode cX7_append 37 = .ok (.ifCond .le 5, 3) := by decide +kernel
theorem dX7_append_40 : decode cX7_append 40 = .ok (.iconst 0, 1) := by decide +kernel
theorem dX7_append_41 : decode cX7_append 41 = .ok (.ireturn, 1) := by decide +kernel
theorem dX7_append_42 : decode cX7_append 42 = .ok (.aload_n 0, 1) := by decide +kernel
theorem dX7_append_43 : decode cX7_append 43 = .ok (.getfield 16, 3) := by decide +kernel
theorem dX7_append_46 : decode cX7_append 46 = .ok (.aload_n 0, 1) := by decide +kernel
theorem dX7_append_47 : decode cX7_append 47 = .ok (.getfield 176, 3) := by decide +kernel
theorem dX7_append_50 : decode cX7_append 50 = .ok (.iload_n 1, 1) := by decide +kernel
theorem dX7_append_51 : decode cX7_append 51 = .ok (.iastore, 1) := by decide +kernel
theorem dX7_append_52 : decode cX7_append 52 = .ok (.aload_n 0, 1) := by decide +kernel
theorem dX7_append_53 : decode cX7_append 53 = .ok (.dup, 1) := by decide +kernel
theorem dX7_append_54 : decode cX7_append 54 = .ok (.getfield 176, 3) := by decide +kernel
theorem dX7_append_57 : decode cX7_append 57 = .ok (.iconst 1, 1) := by decide +kernel
theorem dX7_append_58 : decode cX7_append 58 = .ok (.iadd, 1) := by decide +kernel
theorem dX7_append_59 : decode cX7_append 59 = .ok (.putfield 176, 3) := by decide +kernel
theorem dX7_append_62 : decode cX7_append 62 = .ok (.aload_n 0, 1) := by decide +kernel
theorem dX7_append_63 : decode cX7_append 63 = .ok (.getfield 176, 3) := by decide +kernel
theorem dX7_append_66 : decode cX7_append 66 = .ok (.ireturn, 1) := by decide +kernel
theorem pd_X7_append : (parseMethodDescriptor yX7_append.desc).map (fun d => d.parameters.length) = some 1 := by decide +kernel
def w_X7_append (zz : Nat → Nat) (a0 : Nat) (a1 : Int) (h : AH) (Q : Int → AH → Prop) : Prop := w_X7_within zz a1 (33 : Int) (126 : Int) h (fun (r6 : Int) (h6 : AH) => jn (fun (t1_30 : Int) (h_30 : AH) => okP h_30 a0 7 ∧ ∀ h30 : AH, h30 = sfI h_30 a0 0 t1_30 → okA h30 a0 7 ∧ (((hfI h30 a0 0) ≤ 0) → okA h30 a0 7 ∧ ∃ b43 : Nat, hfR h30 a0 5 = some b43 ∧ okA h30 a0 7 ∧ okW h30 b43 (hfI h30 a0 4) ∧ ∀ h51 : AH, h51 = saI h30 b43 (u1 (haI h30 b43) (hfI h30 a0 4) a1) → okA h51 a0 7 ∧ inR ((hfI h51 a0 4) + (1 : Int)) ∧ okP h51 a0 7 ∧ ∀ h59 : AH, h59 = sfI h51 a0 4 ((hfI h51 a0 4) + (1 : Int)) → okA h59 a0 7 ∧ Q (hfI h59 a0 4) h59) ∧ ((¬ ((hfI h30 a0 0) ≤ 0)) → Q (0 : Int) h30)) (fun k_30 : Int → AH → Prop => ((¬ r6 = 0) → okA h6 a0 7 ∧ ((¬ (hfI h6 a0 4) = (60 : Int)) → k_30 (0 : Int) h6) ∧ (((hfI h6 a0 4) = (60 : Int)) → k_30 (2 : Int) h6)) ∧ ((r6 = 0) → k_30 (1 : Int) h6)))
set_option maxRecDepth 100000 in
set_option maxHeartbeats 4000000 in
theorem met_X7_append (G : GG) (l : Launch) : ∀ (As : List Value) (a0 : Nat) (a1 : Int) (h : AH) (Q : Int → AH → Prop), As.map ab = List.map some ([vR a0, vI a1] : List AV) → w_X7_append G.2.2 a0 a1 h Q → Met l yX7_append (.code yX7_append cX7_append 2 (some .int) :: xTb) ({ frames := 1, cells := 0, slots := 0, locals := 22 } : Room) (PcA G As h) (QG G (oI Q)) 0 0 (frA G) := by
  intro As a0 a1 h Q hA hw
  refine met_of hA (by decide) (Nat.le_of_ble_eq_true rfl) (fun p e s m args below meth c C hml hr hnm => ?_)
  unfold w_X7_append at hw
  refine aw_aload_n (pc := 0) C dX7_append_0 rfl rfl ?_
  refine aw_iload_n (pc := 1) C dX7_append_1 rfl rfl ?_
  refine aw_bipush (pc := 2) C dX7_append_2 (i := (33 : Int)) (by decide) ?_
  refine aw_bipush (pc := 4) C dX7_append_4 (i := (126 : Int)) (by decide) ?_
  refine aw_callS (pc := 6) (as := [vI a1, vI (33 : Int), vI (126 : Int)]) C (fun As hA => met_X7_within G l As a1 (33 : Int) (126 : Int) _ _ hA hw) tw883 tw884 tw10 tw885 ⟨rfl, rfl⟩ ⟨by decide, by decide, pd_X7_within⟩ ⟨Nat.le_of_ble_eq_true rfl, Nat.le_of_ble_eq_true rfl⟩ ⟨Nat.zero_le _, Nat.zero_le _⟩ (Nat.le_of_ble_eq_true rfl) dX7_append_6 rfl (fun v9 h6 hq9 => ?_)
  obtain ⟨r6, rfl, hw⟩ := hq9
  obtain ⟨k_30, hk_30, hw⟩ := jn_out hw
  have J_30 : ∀ (t1_30 : Int) (h_30 : AH), k_30 t1_30 h_30 → AW G p l e ({ frames := 1, cells := 0, slots := 0, locals := 22 } : Room) s m args below meth c 0 0 (MQ below (QG G (oI Q)) args s 0 0 (frA G)) 30 (eOf [(0, vR a0), (1, vI a1)]) [vI t1_30, vR a0] h_30 := by
    intro t1_30 h_30 hw
    rw [hk_30] at hw
    obtain ⟨hp9, hw⟩ := hw
    refine aw_putI (pc := 30) C (ci := 7) (k := 0) ci7 (by decide) tw792 (Or.inl rfl) dX7_append_30 rfl hp9 (aw_nmH (fun h30 e9 => ?_))
    have hw := hw h30 e9
    refine aw_aload_n (pc := 33) C dX7_append_33 rfl rfl ?_
    obtain ⟨hp9, hw⟩ := hw
    refine aw_getI (pc := 34) C (ci := 7) (k := 0) ci7 (by decide) tw792 dX7_append_34 rfl hp9 ?_
    refine aw_if_le (pc := 37) (tgt := 42) C dX7_append_37 (by decide) (fun hc9 => ?_) (fun hc9 => ?_)
    · have hw := hw.1 hc9
      refine aw_aload_n (pc := 42) C dX7_append_42 rfl rfl ?_
      obtain ⟨hp9, b43, hb9, hw⟩ := hw
      refine aw_getR (pc := 43) C (ci := 7) (k := 5) ci7 (by decide) tw797 dX7_append_43 rfl hp9 hb9 ?_
      refine aw_aload_n (pc := 46) C dX7_append_46 rfl rfl ?_
      obtain ⟨hp9, hw⟩ := hw
      refine aw_getI (pc := 47) C (ci := 7) (k := 4) ci7 (by decide) tw796 dX7_append_47 rfl hp9 ?_
      refine aw_iload_n (pc := 50) C dX7_append_50 rfl rfl ?_
      obtain ⟨⟨k9, hp9⟩, hw⟩ := hw
      refine aw_iast (pc := 51) C dX7_append_51 hp9 (aw_nmH (fun h51 e9 => ?_))
      have hw := hw h51 e9
      refine aw_aload_n (pc := 52) C dX7_append_52 rfl rfl ?_
      refine aw_dup (pc := 53) C dX7_append_53 rfl ?_
      obtain ⟨hp9, hw⟩ := hw
      refine aw_getI (pc := 54) C (ci := 7) (k := 4) ci7 (by decide) tw796 dX7_append_54 rfl hp9 ?_
      refine aw_iconst (pc := 57) C dX7_append_57 (i := (1 : Int)) (by decide) ?_
      obtain ⟨hp9, hw⟩ := hw
      refine aw_iadd (pc := 58) C dX7_append_58 hp9 ?_
      obtain ⟨hp9, hw⟩ := hw
      refine aw_putI (pc := 59) C (ci := 7) (k := 4) ci7 (by decide) tw796 (Or.inl rfl) dX7_append_59 rfl hp9 (aw_nmH (fun h59 e9 => ?_))
      have hw := hw h59 e9
      refine aw_aload_n (pc := 62) C dX7_append_62 rfl rfl ?_
      obtain ⟨hp9, hw⟩ := hw
      refine aw_getI (pc := 63) C (ci := 7) (k := 4) ci7 (by decide) tw796 dX7_append_63 rfl hp9 ?_
      exact aw_iret (pc := 66) C hr dX7_append_66 ⟨Nat.le_of_ble_eq_true rfl, Nat.le_of_ble_eq_true rfl⟩ ⟨_, rfl, hw⟩
    · have hw := hw.2 hc9
      refine aw_iconst (pc := 40) C dX7_append_40 (i := (0 : Int)) (by decide) ?_
      exact aw_iret (pc := 41) C hr dX7_append_41 ⟨Nat.le_of_ble_eq_true rfl, Nat.le_of_ble_eq_true rfl⟩ ⟨_, rfl, hw⟩
  refine aw_if_ne (pc := 9) (tgt := 16) C dX7_append_9 (by decide) (fun hc9 => ?_) (fun hc9 => ?_)
  · have hw := hw.1 hc9
    refine aw_aload_n (pc := 16) C dX7_append_16 rfl rfl ?_
    obtain ⟨hp9, hw⟩ := hw
    refine aw_getI (pc := 17) C (ci := 7) (k := 4) ci7 (by decide) tw796 dX7_append_17 rfl hp9 ?_
    refine aw_bipush (pc := 20) C dX7_append_20 (i := (60 : Int)) (by decide) ?_
    refine aw_icmp_ne (pc := 22) (tgt := 29) C dX7_append_22 (by decide) (fun hc9 => ?_) (fun hc9 => ?_)
    · have hw := hw.1 hc9
      refine aw_iconst (pc := 29) C dX7_append_29 (i := (0 : Int)) (by decide) ?_
      refine aw_sub [(0, vR a0), (1, vI a1)] ⟨rfl, rfl, trivial⟩ ?_
      exact J_30 _ _ hw
    · have hw := hw.2 hc9
      refine aw_iconst (pc := 25) C dX7_append_25 (i := (2 : Int)) (by decide) ?_
      refine aw_goto (pc := 26) (tgt := 30) C dX7_append_26 (by decide) ?_
      refine aw_sub [(0, vR a0), (1, vI a1)] ⟨rfl, rfl, trivial⟩ ?_
      exact J_30 _ _ hw
  · have hw := hw.2 hc9
    refine aw_iconst (pc := 12) C dX7_append_12 (i := (1 : Int)) (by decide) ?_
    refine aw_goto (pc := 13) (tgt := 30) C dX7_append_13 (by decide) ?_
    refine aw_sub [(0, vR a0), (1, vI a1)] ⟨rfl, rfl, trivial⟩ ?_
    exact J_30 _ _ hw
theorem dX7_clearBuffer_0 : decode cX7_clearBuffer 0 = .ok (.aload_n 0, 1) := by decide +kernel
theorem dX7_clearBuffer_1 : decode cX7_clearBuffer 1 = .ok (.iconst 0, 1) := by decide +kernel
theorem dX7_clearBuffer_2 : decode cX7_clearBuffer 2 = .ok (.putfield 61, 3) := by decide +kernel
theorem dX7_clearBuffer_5 : decode cX7_clearBuffer 5 = .ok (.aload_n 0, 1) := by decide +kernel
theorem dX7_clearBuffer_6 : decode cX7_clearBuffer 6 = .ok (.getfield 176, 3) := by decide +kernel
theorem dX7_clearBuffer_9 : decode cX7_clearBuffer 9 = .ok (.istore_n 1, 1) := by decide +kernel
theorem dX7_clearBuffer_10 : decode cX7_clearBuffer 10 = .ok (.aload_n 0, 1) := by decide +kernel
theorem dX7_clearBuffer_11 : decode cX7_clearBuffer 11 = .ok (.iconst 0, 1) := by decide +kernel
theorem dX7_clearBuffer_12 : decode cX7_clearBuffer 12 = .ok (.putfield 176, 3) := by decide +kernel
theorem dX7_clearBuffer_15 : decode cX7_clearBuffer 15 = .ok (.iload_n 1, 1) := by decide +kernel
theorem dX7_clearBuffer_16 : decode cX7_clearBuffer 16 = .ok (.ireturn, 1) := by decide +kernel
theorem pd_X7_clearBuffer : (parseMethodDescriptor yX7_clearBuffer.desc).map (fun d => d.parameters.length) = some 0 := by decide +kernel
def w_X7_clearBuffer (zz : Nat → Nat) (a0 : Nat) (h : AH) (Q : Int → AH → Prop) : Prop := okP h a0 7 ∧ ∀ h2 : AH, h2 = sfI h a0 0 (0 : Int) → okA h2 a0 7 ∧ ∀ x1_9 : Int, x1_9 = (hfI h2 a0 4) → okP h2 a0 7 ∧ ∀ h12 : AH, h12 = sfI h2 a0 4 (0 : Int) → Q x1_9 h12
set_option maxRecDepth 100000 in
set_option maxHeartbeats 4000000 in
theorem met_X7_clearBuffer (G : GG) (l : Launch) : ∀ (As : List Value) (a0 : Nat) (h : AH) (Q : Int → AH → Prop), As.map ab = List.map some ([vR a0] : List AV) → w_X7_clearBuffer G.2.2 a0 h Q → Met l yX7_clearBuffer (.code yX7_clearBuffer cX7_clearBuffer 2 (some .int) :: xTb) ({ frames := 0, cells := 0, slots := 0, locals := 0 } : Room) (PcA G As h) (QG G (oI Q)) 0 0 (frA G) := by
  intro As a0 h Q hA hw
  refine met_of hA (by decide) (Nat.le_of_ble_eq_true rfl) (fun p e s m args below meth c C hml hr hnm => ?_)
  unfold w_X7_clearBuffer at hw
  refine aw_aload_n (pc := 0) C dX7_clearBuffer_0 rfl rfl ?_
  refine aw_iconst (pc := 1) C dX7_clearBuffer_1 (i := (0 : Int)) (by decide) ?_
  obtain ⟨hp9, hw⟩ := hw
  refine aw_putI (pc := 2) C (ci := 7) (k := 0) ci7 (by decide) tw792 (Or.inl rfl) dX7_clearBuffer_2 rfl hp9 (aw_nmH (fun h2 e9 => ?_))
  have hw := hw h2 e9
  refine aw_aload_n (pc := 5) C dX7_clearBuffer_5 rfl rfl ?_
  obtain ⟨hp9, hw⟩ := hw
  refine aw_getI (pc := 6) C (ci := 7) (k := 4) ci7 (by decide) tw796 dX7_clearBuffer_6 rfl hp9 ?_
  refine aw_nmI (fun x1_9 e9 => ?_)
  have hw := hw x1_9 e9
  refine aw_istore_n (pc := 9) C dX7_clearBuffer_9 rfl (by rw [hml]; decide) ?_
  refine aw_aload_n (pc := 10) C dX7_clearBuffer_10 rfl rfl ?_
  refine aw_iconst (pc := 11) C dX7_clearBuffer_11 (i := (0 : Int)) (by decide) ?_
  obtain ⟨hp9, hw⟩ := hw
  refine aw_putI (pc := 12) C (ci := 7) (k := 4) ci7 (by decide) tw796 (Or.inl rfl) dX7_clearBuffer_12 rfl hp9 (aw_nmH (fun h12 e9 => ?_))
  have hw := hw h12 e9
  refine aw_iload_n (pc := 15) C dX7_clearBuffer_15 rfl rfl ?_
  exact aw_iret (pc := 16) C hr dX7_clearBuffer_16 ⟨Nat.le_of_ble_eq_true rfl, Nat.le_of_ble_eq_true rfl⟩ ⟨_, rfl, hw⟩
theorem dX7_readText_0 : decode cX7_readText 0 = .ok (.iconst 0, 1) := by decide +kernel
theorem dX7_readText_1 : decode cX7_readText 1 = .ok (.istore_n 1, 1) := by decide +kernel
theorem dX7_readText_2 : decode cX7_readText 2 = .ok (.iload_n 1, 1) := by decide +kernel
theorem dX7_readText_3 : decode cX7_readText 3 = .ok (.bipush 80, 2) := by decide +kernel
theorem dX7_readText_5 : decode cX7_readText 5 = .ok (.if_icmp .ge 17, 3) := by decide +kernel
theorem dX7_readText_8 : decode cX7_readText 8 = .ok (.aload_n 0, 1) := by decide +kernel
theorem dX7_readText_9 : decode cX7_readText 9 = .ok (.getfield 55, 3) := by decide +kernel
theorem dX7_readText_12 : decode cX7_readText 12 = .ok (.iload_n 1, 1) := by decide +kernel
theorem dX7_readText_13 : decode cX7_readText 13 = .ok (.bipush 32, 2) := by decide +kernel
theorem dX7_readText_15 : decode cX7_readText 15 = .ok (.iastore, 1) := by decide +kernel
theorem dX7_readText_16 : decode cX7_readText 16 = .ok (.iinc 1 1, 3) := by decide +kernel
theorem dX7_readText_19 : decode cX7_readText 19 = .ok (.goto (-17), 3) := by decide +kernel
theorem dX7_readText_22 : decode cX7_readText 22 = .ok (.iconst 0, 1) := by decide +kernel
theorem dX7_readText_23 : decode cX7_readText 23 = .ok (.istore_n 1, 1) := by decide +kernel
theorem dX7_readText_24 : decode cX7_readText 24 = .ok (.iconst 0, 1) := by decide +kernel
theorem dX7_readText_25 : decode cX7_readText 25 = .ok (.istore_n 2, 1) := by decide +kernel
theorem dX7_readText_26 : decode cX7_readText 26 = .ok (.iconst 0, 1) := by decide +kernel
theorem dX7_readText_27 : decode cX7_readText 27 = .ok (.istore_n 3, 1) := by decide +kernel
theorem dX7_readText_28 : decode cX7_readText 28 = .ok (.iconst 0, 1) := by decide +kernel
theorem dX7_readText_29 : decode cX7_readText 29 = .ok (.istore 4, 2) := by decide +kernel
theorem dX7_readText_31 : decode cX7_readText 31 = .ok (.iload 4, 2) := by decide +kernel
theorem dX7_readText_33 : decode cX7_readText 33 = .ok (.aload_n 0, 1) := by decide +kernel
theorem dX7_readText_34 : decode cX7_readText 34 = .ok (.getfield 176, 3) := by decide +kernel
theorem dX7_readText_37 : decode cX7_readText 37 = .ok (.if_icmp .ge 164, 3) := by decide +kernel
theorem dX7_readText_40 : decode cX7_readText 40 = .ok (.aload_n 0, 1) := by decide +kernel
theorem dX7_readText_41 : decode cX7_readText 41 = .ok (.getfield 16, 3) := by decide +kernel
theorem dX7_readText_44 : decode cX7_readText 44 = .ok (.iload 4, 2) := by decide +kernel
theorem dX7_readText_46 : decode cX7_readText 46 = .ok (.iaload, 1) := by decide +kernel
theorem dX7_readText_47 : decode cX7_readText 47 = .ok (.istore 5, 2) := by decide +kernel
theorem dX7_readText_49 : decode cX7_readText 49 = .ok (.iload 5, 2) := by decide +kernel
theorem dX7_readText_51 : decode cX7_readText 51 = .ok (.bipush 47, 2) := by decide +kernel
theorem dX7_readText_53 : decode cX7_readText 53 = .ok (.if_icmp .ne 7, 3) := by decide +kernel
theorem dX7_readText_56 : decode cX7_readText 56 = .ok (.iconst 1, 1) := by decide +kernel
theorem dX7_readText_57 : decode cX7_readText 57 = .ok (.goto 4, 3) := by decide +kernel
theorem dX7_readText_60 : decode cX7_readText 60 = .ok (.iconst 0, 1) := by decide +kernel
theorem dX7_readText_61 : decode cX7_readText 61 = .ok (.istore 6, 2) := by decide +kernel
theorem dX7_readText_63 : decode cX7_readText 63 = .ok (.iload 6, 2) := by decide +kernel
theorem dX7_readText_65 : decode cX7_readText 65 = .ok (.ifCond .eq 16, 3) := by decide +kernel
theorem dX7_readText_68 : decode cX7_readText 68 = .ok (.iload_n 1, 1) := by decide +kernel
theorem dX7_readText_69 : decode cX7_readText 69 = .ok (.iconst 4, 1) := by decide +kernel
theorem dX7_readText_70 : decode cX7_readText 70 = .ok (.if_icmp .ge 7, 3) := by decide +kernel
theorem dX7_readText_73 : decode cX7_readText 73 = .ok (.iconst 1, 1) := by decide +kernel
theorem dX7_readText_74 : decode cX7_readText 74 = .ok (.goto 39, 3) := by decide +kernel
theorem dX7_readText_77 : decode cX7_readText 77 = .ok (.iconst 0, 1) := by decide +kernel
theorem dX7_readText_78 : decode cX7_readText 78 = .ok (.goto 35, 3) := by decide +kernel
theorem dX7_readText_81 : decode cX7_readText 81 = .ok (.iload_n 2, 1) := by decide +kernel
theorem dX7_readText_82 : decode cX7_readText 82 = .ok (.bipush 16, 2) := by decide +kernel
theorem dX7_readText_84 : decode cX7_readText 84 = .ok (.if_icmp .ge 28, 3) := by decide +kernel
theorem dX7_readText_87 : decode cX7_readText 87 = .ok (.iload 5, 2) := by decide +kernel
theorem dX7_readText_89 : decode cX7_readText 89 = .ok (.bipush 46, 2) := by decide +kernel
theorem dX7_readText_91 : decode cX7_readText 91 = .ok (.if_icmp .eq 17, 3) := by decide +kernel
theorem dX7_readText_94 : decode cX7_readText 94 = .ok (.iload 5, 2) := by decide +kernel
theorem dX7_readText_96 : decode cX7_readText 96 = .ok (.invokestatic 167, 3) := by decide +kernel
theorem dX7_readText_99 : decode cX7_readText 99 = .ok (.ifCond .eq 13, 3) := by decide +kernel
theorem dX7_readText_102 : decode cX7_readText 102 = .ok (.iload_n 3, 1) := by decide +kernel
theorem dX7_readText_103 : decode cX7_readText 103 = .ok (.bipush 40, 2) := by decide +kernel
theorem dX7_readText_105 : decode cX7_readText 105 = .ok (.if_icmp .ge 7, 3) := by decide +kernel
theorem dX7_readText_108 : decode cX7_readText 108 = .ok (.iconst 1, 1) := by decide +kernel
theorem dX7_readText_109 : decode cX7_readText 109 = .ok (.goto 4, 3) := by decide +kernel
theorem dX7_readText_112 : decode cX7_readText 112 = .ok (.iconst 0, 1) := by decide +kernel
theorem dX7_readText_113 : decode cX7_readText 113 = .ok (.istore 7, 2) := by decide +kernel
theorem dX7_readText_115 : decode cX7_readText 115 = .ok (.iload 7, 2) := by decide +kernel
theorem dX7_readText_117 : decode cX7_readText 117 = .ok (.ifCond .ne 6, 3) := by decide +kernel
theorem dX7_readText_120 : decode cX7_readText 120 = .ok (.iload 4, 2) := by decide +kernel
theorem dX7_readText_122 : decode cX7_readText 122 = .ok (.ireturn, 1) := by decide +kernel
theorem dX7_readText_123 : decode cX7_readText 123 = .ok (.iload 6, 2) := by decide +kernel
theorem dX7_readText_125 : decode cX7_readText 125 = .ok (.ifCond .ne 28, 3) := by decide +kernel
theorem dX7_readText_128 : decode cX7_readText 128 = .ok (.aload_n 0, 1) := by decide +kernel
theorem dX7_readText_129 : decode cX7_readText 129 = .ok (.getfield 55, 3) := by decide +kernel
theorem dX7_readText_132 : decode cX7_readText 132 = .ok (.bipush 16, 2) := by decide +kernel
theorem dX7_readText_134 : decode cX7_readText 134 = .ok (.iload_n 1, 1) := by decide +kernel
theorem dX7_readText_135 : decode cX7_readText 135 = .ok (.imul, 1) := by decide +kernel
theorem dX7_readText_136 : decode cX7_readText 136 = .ok (.iload_n 2, 1) := by decide +kernel
theorem dX7_readText_137 : decode cX7_readText 137 = .ok (.iadd, 1) := by decide +kernel
theorem dX7_readText_138 : decode cX7_readText 138 = .ok (.iload 5, 2) := by decide +kernel
theorem dX7_readText_140 : decode cX7_readText 140 = .ok (.bipush 46, 2) := by decide +kernel
theorem dX7_readText_142 : decode cX7_readText 142 = .ok (.if_icmp .ne 8, 3) := by decide +kernel
theorem dX7_readText_145 : decode cX7_readText 145 = .ok (.bipush 32, 2) := by decide +kernel
theorem dX7_readText_147 : decode cX7_readText 147 = .ok (.goto 5, 3) := by decide +kernel
theorem dX7_readText_150 : decode cX7_readText 150 = .ok (.iload 5, 2) := by decide +kernel
theorem dX7_readText_152 : decode cX7_readText 152 = .ok (.iastore, 1) := by decide +kernel
theorem dX7_readText_153 : decode cX7_readText 153 = .ok (.iload_n 3, 1) := by decide +kernel
theorem dX7_readText_154 : decode cX7_readText 154 = .ok (.iload 5, 2) := by decide +kernel
theorem dX7_readText_156 : decode cX7_readText 156 = .ok (.invokestatic 167, 3) := by decide +kernel
theorem dX7_readText_159 : decode cX7_readText 159 = .ok (.ifCond .eq 7, 3) := by decide +kernel
theorem dX7_readText_162 : decode cX7_readText 162 = .ok (.iconst 1, 1) := by decide +kernel
theorem dX7_readText_163 : decode cX7_readText 163 = .ok (.goto 4, 3) := by decide +kernel
theorem dX7_readText_166 : decode cX7_readText 166 = .ok (.iconst 0, 1) := by decide +kernel
theorem dX7_readText_167 : decode cX7_readText 167 = .ok (.iadd, 1) := by decide +kernel
theorem dX7_readText_168 : decode cX7_readText 168 = .ok (.istore_n 3, 1) := by decide +kernel
theorem dX7_readText_169 : decode cX7_readText 169 = .ok (.iload_n 1, 1) := by decide +kernel
theorem dX7_readText_170 : decode cX7_readText 170 = .ok (.iload 6, 2) := by decide +kernel
theorem dX7_readText_172 : decode cX7_readText 172 = .ok (.ifCond .eq 7, 3) := by decide +kernel
theorem dX7_readText_175 : decode cX7_readText 175 = .ok (.iconst 1, 1) := by decide +kernel
theorem dX7_readText_176 : decode cX7_readText 176 = .ok (.goto 4, 3) := by decide +kernel
theorem dX7_readText_179 : decode cX7_readText 179 = .ok (.iconst 0, 1) := by decide +kernel
theorem dX7_readText_180 : decode cX7_readText 180 = .ok (.iadd, 1) := by decide +kernel
theorem dX7_readText_181 : decode cX7_readText 181 = .ok (.istore_n 1, 1) := by decide +kernel
theorem dX7_readText_182 : decode cX7_readText 182 = .ok (.iload 6, 2) := by decide +kernel
theorem dX7_readText_184 : decode cX7_readText 184 = .ok (.ifCond .eq 7, 3) := by decide +kernel
theorem dX7_readText_187 : decode cX7_readText 187 = .ok (.iconst 0, 1) := by decide +kernel
theorem dX7_readText_188 : decode cX7_readText 188 = .ok (.goto 6, 3) := by decide +kernel
theorem dX7_readText_191 : decode cX7_readText 191 = .ok (.iload_n 2, 1) := by decide +kernel
theorem dX7_readText_192 : decode cX7_readText 192 = .ok (.iconst 1, 1) := by decide +kernel
theorem dX7_readText_193 : decode cX7_readText 193 = .ok (.iadd, 1) := by decide +kernel
theorem dX7_readText_194 : decode cX7_readText 194 = .ok (.istore_n 2, 1) := by decide +kernel
theorem dX7_readText_195 : decode cX7_readText 195 = .ok (.iinc 4 1, 3) := by decide +kernel
theorem dX7_readText_198 : decode cX7_readText 198 = .ok (.goto (-167), 3) := by decide +kernel
theorem dX7_readText_201 : decode cX7_readText 201 = .ok (.aload_n 0, 1) := by decide +kernel
theorem dX7_readText_202 : decode cX7_readText 202 = .ok (.getfield 176, 3) := by decide +kernel
theorem dX7_readText_205 : decode cX7_readText 205 = .ok (.ireturn, 1) := by decide +kernel
theorem pd_X7_readText : (parseMethodDescriptor yX7_readText.desc).map (fun d => d.parameters.length) = some 0 := by decide +kernel
def w_X7_readText (zz : Nat → Nat) (a0 : Nat) (h : AH) (Q : Int → AH → Prop) : Prop := ∃ I_2 : Nat → Int → AH → Prop, (∃ n, I_2 n (0 : Int) h) ∧ ∀ (n_2 : Nat) (x1_2 : Int) (h_2 : AH), I_2 n_2 x1_2 h_2 → ((((80 : Int) ≤ x1_2) → ∃ I_31 : Nat → Int → Int → Int → Int → AH → Prop, (∃ n, I_31 n (0 : Int) (0 : Int) (0 : Int) (0 : Int) h_2) ∧ ∀ (n_31 : Nat) (x1_31 : Int) (x2_31 : Int) (x3_31 : Int) (x4_31 : Int) (h_31 : AH), I_31 n_31 x1_31 x2_31 x3_31 x4_31 h_31 → (okA h_31 a0 7 ∧ (((hfI h_31 a0 4) ≤ x4_31) → okA h_31 a0 7 ∧ Q (hfI h_31 a0 4) h_31) ∧ ((¬ ((hfI h_31 a0 4) ≤ x4_31)) → okA h_31 a0 7 ∧ ∃ b41 : Nat, hfR h_31 a0 5 = some b41 ∧ okI h_31 b41 x4_31 ∧ ∀ x5_47 : Int, x5_47 = (haI h_31 b41 x4_31) → jn (fun (t0_61 : Int) (h_61 : AH) => jn (fun (t0_113 : Int) (h_113 : AH) => ((¬ t0_113 = 0) → jn (fun  (h_153 : AH) => w_X7_isLetter zz x5_47 h_153 (fun (r156 : Int) (h156 : AH) => jn (fun (t1_167 : Int) (h_167 : AH) => inR (x3_31 + t1_167) ∧ ∀ x3_168 : Int, x3_168 = (x3_31 + t1_167) → jn (fun (t1_180 : Int) (h_180 : AH) => inR (x1_31 + t1_180) ∧ ∀ x1_181 : Int, x1_181 = (x1_31 + t1_180) → jn (fun (t0_194 : Int) (h_194 : AH) => inR (x4_31 + 1) ∧ ∀ x4_195 : Int, x4_195 = (x4_31 + 1) → ∃ m, m < n_31 ∧ I_31 m x1_181 t0_194 x3_168 x4_195 h_194) (fun k_194 : Int → AH → Prop => ((t0_61 = 0) → inR (x2_31 + (1 : Int)) ∧ k_194 (x2_31 + (1 : Int)) h_180) ∧ ((¬ (t0_61 = 0)) → k_194 (0 : Int) h_180))) (fun k_180 : Int → AH → Prop => ((t0_61 = 0) → k_180 (0 : Int) h_167) ∧ ((¬ (t0_61 = 0)) → k_180 (1 : Int) h_167))) (fun k_167 : Int → AH → Prop => ((r156 = 0) → k_167 (0 : Int) h156) ∧ ((¬ (r156 = 0)) → k_167 (1 : Int) h156)))) (fun k_153 : AH → Prop => ((¬ t0_61 = 0) → k_153  h_113) ∧ ((t0_61 = 0) → okA h_113 a0 7 ∧ ∃ b129 : Nat, hfR h_113 a0 19 = some b129 ∧ inR ((16 : Int) * x1_31) ∧ inR (((16 : Int) * x1_31) + x2_31) ∧ jn (fun (t2_152 : Int) (h_152 : AH) => okW h_152 b129 (((16 : Int) * x1_31) + x2_31) ∧ ∀ h152 : AH, h152 = saI h_152 b129 (u1 (haI h_152 b129) (((16 : Int) * x1_31) + x2_31) t2_152) → k_153  h152) (fun k_152 : Int → AH → Prop => ((¬ x5_47 = (46 : Int)) → k_152 x5_47 h_113) ∧ ((x5_47 = (46 : Int)) → k_152 (32 : Int) h_113))))) ∧ ((t0_113 = 0) → Q x4_31 h_113)) (fun k_113 : Int → AH → Prop => ((t0_61 = 0) → jn (fun  (h_112 : AH) => k_113 (0 : Int) h_112) (fun k_112 : AH → Prop => (((16 : Int) ≤ x2_31) → k_112  h_61) ∧ ((¬ ((16 : Int) ≤ x2_31)) → jn (fun  (h_108 : AH) => k_113 (1 : Int) h_108) (fun k_108 : AH → Prop => ((x5_47 = (46 : Int)) → k_108  h_61) ∧ ((¬ (x5_47 = (46 : Int))) → w_X7_isLetter zz x5_47 h_61 (fun (r96 : Int) (h96 : AH) => ((r96 = 0) → k_112  h96) ∧ ((¬ (r96 = 0)) → (((40 : Int) ≤ x3_31) → k_112  h96) ∧ ((¬ ((40 : Int) ≤ x3_31)) → k_108  h96)))))))) ∧ ((¬ (t0_61 = 0)) → (((4 : Int) ≤ x1_31) → k_113 (0 : Int) h_61) ∧ ((¬ ((4 : Int) ≤ x1_31)) → k_113 (1 : Int) h_61)))) (fun k_61 : Int → AH → Prop => ((¬ x5_47 = (47 : Int)) → k_61 (0 : Int) h_31) ∧ ((x5_47 = (47 : Int)) → k_61 (1 : Int) h_31))))) ∧ ((¬ ((80 : Int) ≤ x1_2)) → okA h_2 a0 7 ∧ ∃ b9 : Nat, hfR h_2 a0 19 = some b9 ∧ okW h_2 b9 x1_2 ∧ ∀ h15 : AH, h15 = saI h_2 b9 (u1 (haI h_2 b9) x1_2 (32 : Int)) → inR (x1_2 + 1) ∧ ∀ x1_16 : Int, x1_16 = (x1_2 + 1) → ∃ m, m < n_2 ∧ I_2 m x1_16 h15))
set_option maxRecDepth 100000 in
set_option maxHeartbeats 4000000 in
theorem met_X7_readText (G : GG) (l : Launch) : ∀ (As : List Value) (a0 : Nat) (h : AH) (Q : Int → AH → Prop), As.map ab = List.map some ([vR a0] : List AV) → w_X7_readText G.2.2 a0 h Q → Met l yX7_readText (.code yX7_readText cX7_readText 8 (some .int) :: xTb) ({ frames := 2, cells := 0, slots := 0, locals := 42 } : Room) (PcA G As h) (QG G (oI Q)) 0 0 (frA G) := by
  intro As a0 h Q hA hw
  refine met_of hA (by decide) (Nat.le_of_ble_eq_true rfl) (fun p e s m args below meth c C hml hr hnm => ?_)
  unfold w_X7_readText at hw
  refine aw_iconst (pc := 0) C dX7_readText_0 (i := (0 : Int)) (by decide) ?_
  refine aw_istore_n (pc := 1) C dX7_readText_1 rfl (by rw [hml]; decide) ?_
  obtain ⟨I_2, ⟨n9, hi9⟩, hst9⟩ := hw
  have L_2 : ∀ (n_2 : Nat) (x1_2 : Int) (h_2 : AH), I_2 n_2 x1_2 h_2 → AW G p l e ({ frames := 2, cells := 0, slots := 0, locals := 42 } : Room) s m args below meth c 0 0 (MQ below (QG G (oI Q)) args s 0 0 (frA G)) 2 (eOf [(0, vR a0), (1, vI x1_2)]) [] h_2 := by
    intro n_2
    induction n_2 using Nat.strongRecOn with
    | _ n_2 ih_2 =>
    intro x1_2 h_2 hi9
    have hw := hst9 n_2 x1_2 h_2 hi9
    refine aw_iload_n (pc := 2) C dX7_readText_2 rfl rfl ?_
    refine aw_bipush (pc := 3) C dX7_readText_3 (i := (80 : Int)) (by decide) ?_
    refine aw_icmp_ge (pc := 5) (tgt := 22) C dX7_readText_5 (by decide) (fun hc9 => ?_) (fun hc9 => ?_)
    · have hw := hw.1 hc9
      refine aw_iconst (pc := 22) C dX7_readText_22 (i := (0 : Int)) (by decide) ?_
      refine aw_istore_n (pc := 23) C dX7_readText_23 rfl (by rw [hml]; decide) ?_
      refine aw_iconst (pc := 24) C dX7_readText_24 (i := (0 : Int)) (by decide) ?_
      refine aw_istore_n (pc := 25) C dX7_readText_25 rfl (by rw [hml]; decide) ?_
      refine aw_iconst (pc := 26) C dX7_readText_26 (i := (0 : Int)) (by decide) ?_
      refine aw_istore_n (pc := 27) C dX7_readText_27 rfl (by rw [hml]; decide) ?_
      refine aw_iconst (pc := 28) C dX7_readText_28 (i := (0 : Int)) (by decide) ?_
      refine aw_istore (pc := 29) C dX7_readText_29 (by rw [hml]; decide) ?_
      obtain ⟨I_31, ⟨n9, hi9⟩, hst9⟩ := hw
      have L_31 : ∀ (n_31 : Nat) (x1_31 : Int) (x2_31 : Int) (x3_31 : Int) (x4_31 : Int) (h_31 : AH), I_31 n_31 x1_31 x2_31 x3_31 x4_31 h_31 → AW G p l e ({ frames := 2, cells := 0, slots := 0, locals := 42 } : Room) s m args below meth c 0 0 (MQ below (QG G (oI Q)) args s 0 0 (frA G)) 31 (eOf [(0, vR a0), (1, vI x1_31), (2, vI x2_31), (3, vI x3_31), (4, vI x4_31)]) [] h_31 := by
        intro n_31
        induction n_31 using Nat.strongRecOn with
        | _ n_31 ih_31 =>
        intro x1_31 x2_31 x3_31 x4_31 h_31 hi9
        have hw := hst9 n_31 x1_31 x2_31 x3_31 x4_31 h_31 hi9
        refine aw_iload (pc := 31) C dX7_readText_31 rfl ?_
        refine aw_aload_n (pc := 33) C dX7_readText_33 rfl rfl ?_
        obtain ⟨hp9, hw⟩ := hw
        refine aw_getI (pc := 34) C (ci := 7) (k := 4) ci7 (by decide) tw796 dX7_readText_34 rfl hp9 ?_
        refine aw_icmp_ge (pc := 37) (tgt := 201) C dX7_readText_37 (by decide) (fun hc9 => ?_) (fun hc9 => ?_)
        · have hw := hw.1 hc9
          refine aw_aload_n (pc := 201) C dX7_readText_201 rfl rfl ?_
          obtain ⟨hp9, hw⟩ := hw
          refine aw_getI (pc := 202) C (ci := 7) (k := 4) ci7 (by decide) tw796 dX7_readText_202 rfl hp9 ?_
          exact aw_iret (pc := 205) C hr dX7_readText_205 ⟨Nat.le_of_ble_eq_true rfl, Nat.le_of_ble_eq_true rfl⟩ ⟨_, rfl, hw⟩
        · have hw := hw.2 hc9
          refine aw_aload_n (pc := 40) C dX7_readText_40 rfl rfl ?_
          obtain ⟨hp9, b41, hb9, hw⟩ := hw
          refine aw_getR (pc := 41) C (ci := 7) (k := 5) ci7 (by decide) tw797 dX7_readText_41 rfl hp9 hb9 ?_
          refine aw_iload (pc := 44) C dX7_readText_44 rfl ?_
          obtain ⟨⟨k9, hp9⟩, hw⟩ := hw
          refine aw_iald (pc := 46) C dX7_readText_46 hp9 ?_
          refine aw_nmI (fun x5_47 e9 => ?_)
          have hw := hw x5_47 e9
          refine aw_istore (pc := 47) C dX7_readText_47 (by rw [hml]; decide) ?_
          refine aw_iload (pc := 49) C dX7_readText_49 rfl ?_
          refine aw_bipush (pc := 51) C dX7_readText_51 (i := (47 : Int)) (by decide) ?_
          obtain ⟨k_61, hk_61, hw⟩ := jn_out hw
          have J_61 : ∀ (t0_61 : Int) (h_61 : AH), k_61 t0_61 h_61 → AW G p l e ({ frames := 2, cells := 0, slots := 0, locals := 42 } : Room) s m args below meth c 0 0 (MQ below (QG G (oI Q)) args s 0 0 (frA G)) 61 (eOf [(0, vR a0), (1, vI x1_31), (2, vI x2_31), (3, vI x3_31), (4, vI x4_31), (5, vI x5_47)]) [vI t0_61] h_61 := by
            intro t0_61 h_61 hw
            rw [hk_61] at hw
            refine aw_istore (pc := 61) C dX7_readText_61 (by rw [hml]; decide) ?_
            refine aw_iload (pc := 63) C dX7_readText_63 rfl ?_
            obtain ⟨k_113, hk_113, hw⟩ := jn_out hw
            have J_113 : ∀ (t0_113 : Int) (h_113 : AH), k_113 t0_113 h_113 → AW G p l e ({ frames := 2, cells := 0, slots := 0, locals := 42 } : Room) s m args below meth c 0 0 (MQ below (QG G (oI Q)) args s 0 0 (frA G)) 113 (eOf [(0, vR a0), (1, vI x1_31), (2, vI x2_31), (3, vI x3_31), (4, vI x4_31), (5, vI x5_47), (6, vI t0_61)]) [vI t0_113] h_113 := by
              intro t0_113 h_113 hw
              rw [hk_113] at hw
              refine aw_istore (pc := 113) C dX7_readText_113 (by rw [hml]; decide) ?_
              refine aw_iload (pc := 115) C dX7_readText_115 rfl ?_
              refine aw_if_ne (pc := 117) (tgt := 123) C dX7_readText_117 (by decide) (fun hc9 => ?_) (fun hc9 => ?_)
              · have hw := hw.1 hc9
                refine aw_iload (pc := 123) C dX7_readText_123 rfl ?_
                obtain ⟨k_153, hk_153, hw⟩ := jn_out hw
                have J_153 : ∀  (h_153 : AH), k_153  h_153 → AW G p l e ({ frames := 2, cells := 0, slots := 0, locals := 42 } : Room) s m args below meth c 0 0 (MQ below (QG G (oI Q)) args s 0 0 (frA G)) 153 (eOf [(0, vR a0), (1, vI x1_31), (2, vI x2_31), (3, vI x3_31), (4, vI x4_31), (5, vI x5_47), (6, vI t0_61)]) [] h_153 := by
                  intro  h_153 hw
                  rw [hk_153] at hw
                  refine aw_iload_n (pc := 153) C dX7_readText_153 rfl rfl ?_
                  refine aw_iload (pc := 154) C dX7_readText_154 rfl ?_
                  refine aw_callS (pc := 156) (as := [vI x5_47]) C (fun As hA => met_X7_isLetter G l As x5_47 _ _ hA hw) tw903 tw904 tw10 tw905 ⟨rfl, rfl⟩ ⟨by decide, by decide, pd_X7_isLetter⟩ ⟨Nat.le_of_ble_eq_true rfl, Nat.le_of_ble_eq_true rfl⟩ ⟨Nat.zero_le _, Nat.zero_le _⟩ (Nat.le_of_ble_eq_true rfl) dX7_readText_156 rfl (fun v9 h156 hq9 => ?_)
                  obtain ⟨r156, rfl, hw⟩ := hq9
                  obtain ⟨k_167, hk_167, hw⟩ := jn_out hw
                  have J_167 : ∀ (t1_167 : Int) (h_167 : AH), k_167 t1_167 h_167 → AW G p l e ({ frames := 2, cells := 0, slots := 0, locals := 42 } : Room) s m args below meth c 0 0 (MQ below (QG G (oI Q)) args s 0 0 (frA G)) 167 (eOf [(0, vR a0), (1, vI x1_31), (2, vI x2_31), (4, vI x4_31), (6, vI t0_61)]) [vI t1_167, vI x3_31] h_167 := by
                    intro t1_167 h_167 hw
                    rw [hk_167] at hw
                    obtain ⟨hp9, hw⟩ := hw
                    refine aw_iadd (pc := 167) C dX7_readText_167 hp9 ?_
                    refine aw_nmI (fun x3_168 e9 => ?_)
                    have hw := hw x3_168 e9
                    refine aw_istore_n (pc := 168) C dX7_readText_168 rfl (by rw [hml]; decide) ?_
                    refine aw_iload_n (pc := 169) C dX7_readText_169 rfl rfl ?_
                    refine aw_iload (pc := 170) C dX7_readText_170 rfl ?_
                    obtain ⟨k_180, hk_180, hw⟩ := jn_out hw
                    have J_180 : ∀ (t1_180 : Int) (h_180 : AH), k_180 t1_180 h_180 → AW G p l e ({ frames := 2, cells := 0, slots := 0, locals := 42 } : Room) s m args below meth c 0 0 (MQ below (QG G (oI Q)) args s 0 0 (frA G)) 180 (eOf [(0, vR a0), (2, vI x2_31), (3, vI x3_168), (4, vI x4_31), (6, vI t0_61)]) [vI t1_180, vI x1_31] h_180 := by
                      intro t1_180 h_180 hw
                      rw [hk_180] at hw
                      obtain ⟨hp9, hw⟩ := hw
                      refine aw_iadd (pc := 180) C dX7_readText_180 hp9 ?_
                      refine aw_nmI (fun x1_181 e9 => ?_)
                      have hw := hw x1_181 e9
                      refine aw_istore_n (pc := 181) C dX7_readText_181 rfl (by rw [hml]; decide) ?_
                      refine aw_iload (pc := 182) C dX7_readText_182 rfl ?_
                      obtain ⟨k_194, hk_194, hw⟩ := jn_out hw
                      have J_194 : ∀ (t0_194 : Int) (h_194 : AH), k_194 t0_194 h_194 → AW G p l e ({ frames := 2, cells := 0, slots := 0, locals := 42 } : Room) s m args below meth c 0 0 (MQ below (QG G (oI Q)) args s 0 0 (frA G)) 194 (eOf [(0, vR a0), (1, vI x1_181), (3, vI x3_168), (4, vI x4_31)]) [vI t0_194] h_194 := by
                        intro t0_194 h_194 hw
                        rw [hk_194] at hw
                        refine aw_istore_n (pc := 194) C dX7_readText_194 rfl (by rw [hml]; decide) ?_
                        obtain ⟨hp9, hw⟩ := hw
                        refine aw_iincN (pc := 195) C dX7_readText_195 (k := 1) (by decide) rfl (by rw [hml]; decide) hp9 (fun x4_195 e9 => ?_)
                        have hw := hw x4_195 e9
                        refine aw_goto (pc := 198) (tgt := 31) C dX7_readText_198 (by decide) ?_
                        obtain ⟨m9, hm9, hw⟩ := hw
                        refine aw_sub [(0, vR a0), (1, vI x1_181), (2, vI t0_194), (3, vI x3_168), (4, vI x4_195)] ⟨rfl, rfl, rfl, rfl, rfl, trivial⟩ ?_
                        exact ih_31 m9 hm9 _ _ _ _ _ hw
                      refine aw_if_eq (pc := 184) (tgt := 191) C dX7_readText_184 (by decide) (fun hc9 => ?_) (fun hc9 => ?_)
                      · have hw := hw.1 hc9
                        refine aw_iload_n (pc := 191) C dX7_readText_191 rfl rfl ?_
                        refine aw_iconst (pc := 192) C dX7_readText_192 (i := (1 : Int)) (by decide) ?_
                        obtain ⟨hp9, hw⟩ := hw
                        refine aw_iadd (pc := 193) C dX7_readText_193 hp9 ?_
                        refine aw_sub [(0, vR a0), (1, vI x1_181), (3, vI x3_168), (4, vI x4_31)] ⟨rfl, rfl, rfl, rfl, trivial⟩ ?_
                        exact J_194 _ _ hw
                      · have hw := hw.2 hc9
                        refine aw_iconst (pc := 187) C dX7_readText_187 (i := (0 : Int)) (by decide) ?_
                        refine aw_goto (pc := 188) (tgt := 194) C dX7_readText_188 (by decide) ?_
                        refine aw_sub [(0, vR a0), (1, vI x1_181), (3, vI x3_168), (4, vI x4_31)] ⟨rfl, rfl, rfl, rfl, trivial⟩ ?_
                        exact J_194 _ _ hw
                    refine aw_if_eq (pc := 172) (tgt := 179) C dX7_readText_172 (by decide) (fun hc9 => ?_) (fun hc9 => ?_)
                    · have hw := hw.1 hc9
                      refine aw_iconst (pc := 179) C dX7_readText_179 (i := (0 : Int)) (by decide) ?_
                      refine aw_sub [(0, vR a0), (2, vI x2_31), (3, vI x3_168), (4, vI x4_31), (6, vI t0_61)] ⟨rfl, rfl, rfl, rfl, rfl, trivial⟩ ?_
                      exact J_180 _ _ hw
                    · have hw := hw.2 hc9
                      refine aw_iconst (pc := 175) C dX7_readText_175 (i := (1 : Int)) (by decide) ?_
                      refine aw_goto (pc := 176) (tgt := 180) C dX7_readText_176 (by decide) ?_
                      refine aw_sub [(0, vR a0), (2, vI x2_31), (3, vI x3_168), (4, vI x4_31), (6, vI t0_61)] ⟨rfl, rfl, rfl, rfl, rfl, trivial⟩ ?_
                      exact J_180 _ _ hw
                  refine aw_if_eq (pc := 159) (tgt := 166) C dX7_readText_159 (by decide) (fun hc9 => ?_) (fun hc9 => ?_)
                  · have hw := hw.1 hc9
                    refine aw_iconst (pc := 166) C dX7_readText_166 (i := (0 : Int)) (by decide) ?_
                    refine aw_sub [(0, vR a0), (1, vI x1_31), (2, vI x2_31), (4, vI x4_31), (6, vI t0_61)] ⟨rfl, rfl, rfl, rfl, rfl, trivial⟩ ?_
                    exact J_167 _ _ hw
                  · have hw := hw.2 hc9
                    refine aw_iconst (pc := 162) C dX7_readText_162 (i := (1 : Int)) (by decide) ?_
                    refine aw_goto (pc := 163) (tgt := 167) C dX7_readText_163 (by decide) ?_
                    refine aw_sub [(0, vR a0), (1, vI x1_31), (2, vI x2_31), (4, vI x4_31), (6, vI t0_61)] ⟨rfl, rfl, rfl, rfl, rfl, trivial⟩ ?_
                    exact J_167 _ _ hw
                refine aw_if_ne (pc := 125) (tgt := 153) C dX7_readText_125 (by decide) (fun hc9 => ?_) (fun hc9 => ?_)
                · have hw := hw.1 hc9
                  refine aw_sub [(0, vR a0), (1, vI x1_31), (2, vI x2_31), (3, vI x3_31), (4, vI x4_31), (5, vI x5_47), (6, vI t0_61)] ⟨rfl, rfl, rfl, rfl, rfl, rfl, rfl, trivial⟩ ?_
                  exact J_153  _ hw
                · have hw := hw.2 hc9
                  refine aw_aload_n (pc := 128) C dX7_readText_128 rfl rfl ?_
                  obtain ⟨hp9, b129, hb9, hw⟩ := hw
                  refine aw_getR (pc := 129) C (ci := 7) (k := 19) ci7 (by decide) tw811 dX7_readText_129 rfl hp9 hb9 ?_
                  refine aw_bipush (pc := 132) C dX7_readText_132 (i := (16 : Int)) (by decide) ?_
                  refine aw_iload_n (pc := 134) C dX7_readText_134 rfl rfl ?_
                  obtain ⟨hp9, hw⟩ := hw
                  refine aw_imul (pc := 135) C dX7_readText_135 hp9 ?_
                  refine aw_iload_n (pc := 136) C dX7_readText_136 rfl rfl ?_
                  obtain ⟨hp9, hw⟩ := hw
                  refine aw_iadd (pc := 137) C dX7_readText_137 hp9 ?_
                  refine aw_iload (pc := 138) C dX7_readText_138 rfl ?_
                  refine aw_bipush (pc := 140) C dX7_readText_140 (i := (46 : Int)) (by decide) ?_
                  obtain ⟨k_152, hk_152, hw⟩ := jn_out hw
                  have J_152 : ∀ (t2_152 : Int) (h_152 : AH), k_152 t2_152 h_152 → AW G p l e ({ frames := 2, cells := 0, slots := 0, locals := 42 } : Room) s m args below meth c 0 0 (MQ below (QG G (oI Q)) args s 0 0 (frA G)) 152 (eOf [(0, vR a0), (1, vI x1_31), (2, vI x2_31), (3, vI x3_31), (4, vI x4_31), (5, vI x5_47), (6, vI t0_61)]) [vI t2_152, vI (((16 : Int) * x1_31) + x2_31), vR b129] h_152 := by
                    intro t2_152 h_152 hw
                    rw [hk_152] at hw
                    obtain ⟨⟨k9, hp9⟩, hw⟩ := hw
                    refine aw_iast (pc := 152) C dX7_readText_152 hp9 (aw_nmH (fun h152 e9 => ?_))
                    have hw := hw h152 e9
                    refine aw_sub [(0, vR a0), (1, vI x1_31), (2, vI x2_31), (3, vI x3_31), (4, vI x4_31), (5, vI x5_47), (6, vI t0_61)] ⟨rfl, rfl, rfl, rfl, rfl, rfl, rfl, trivial⟩ ?_
                    exact J_153  _ hw
                  refine aw_icmp_ne (pc := 142) (tgt := 150) C dX7_readText_142 (by decide) (fun hc9 => ?_) (fun hc9 => ?_)
                  · have hw := hw.1 hc9
                    refine aw_iload (pc := 150) C dX7_readText_150 rfl ?_
                    refine aw_sub [(0, vR a0), (1, vI x1_31), (2, vI x2_31), (3, vI x3_31), (4, vI x4_31), (5, vI x5_47), (6, vI t0_61)] ⟨rfl, rfl, rfl, rfl, rfl, rfl, rfl, trivial⟩ ?_
                    exact J_152 _ _ hw
                  · have hw := hw.2 hc9
                    refine aw_bipush (pc := 145) C dX7_readText_145 (i := (32 : Int)) (by decide) ?_
                    refine aw_goto (pc := 147) (tgt := 152) C dX7_readText_147 (by decide) ?_
                    refine aw_sub [(0, vR a0), (1, vI x1_31), (2, vI x2_31), (3, vI x3_31), (4, vI x4_31), (5, vI x5_47), (6, vI t0_61)] ⟨rfl, rfl, rfl, rfl, rfl, rfl, rfl, trivial⟩ ?_
                    exact J_152 _ _ hw
              · have hw := hw.2 hc9
                refine aw_iload (pc := 120) C dX7_readText_120 rfl ?_
                exact aw_iret (pc := 122) C hr dX7_readText_122 ⟨Nat.le_of_ble_eq_true rfl, Nat.le_of_ble_eq_true rfl⟩ ⟨_, rfl, hw⟩
            refine aw_if_eq (pc := 65) (tgt := 81) C dX7_readText_65 (by decide) (fun hc9 => ?_) (fun hc9 => ?_)
            · have hw := hw.1 hc9
              refine aw_iload_n (pc := 81) C dX7_readText_81 rfl rfl ?_
              refine aw_bipush (pc := 82) C dX7_readText_82 (i := (16 : Int)) (by decide) ?_
              obtain ⟨k_112, hk_112, hw⟩ := jn_out hw
              have J_112 : ∀  (h_112 : AH), k_112  h_112 → AW G p l e ({ frames := 2, cells := 0, slots := 0, locals := 42 } : Room) s m args below meth c 0 0 (MQ below (QG G (oI Q)) args s 0 0 (frA G)) 112 (eOf [(0, vR a0), (1, vI x1_31), (2, vI x2_31), (3, vI x3_31), (4, vI x4_31), (5, vI x5_47), (6, vI t0_61)]) [] h_112 := by
                intro  h_112 hw
                rw [hk_112] at hw
                refine aw_iconst (pc := 112) C dX7_readText_112 (i := (0 : Int)) (by decide) ?_
                refine aw_sub [(0, vR a0), (1, vI x1_31), (2, vI x2_31), (3, vI x3_31), (4, vI x4_31), (5, vI x5_47), (6, vI t0_61)] ⟨rfl, rfl, rfl, rfl, rfl, rfl, rfl, trivial⟩ ?_
                exact J_113 _ _ hw
              refine aw_icmp_ge (pc := 84) (tgt := 112) C dX7_readText_84 (by decide) (fun hc9 => ?_) (fun hc9 => ?_)
              · have hw := hw.1 hc9
                refine aw_sub [(0, vR a0), (1, vI x1_31), (2, vI x2_31), (3, vI x3_31), (4, vI x4_31), (5, vI x5_47), (6, vI t0_61)] ⟨rfl, rfl, rfl, rfl, rfl, rfl, rfl, trivial⟩ ?_
                exact J_112  _ hw
              · have hw := hw.2 hc9
                refine aw_iload (pc := 87) C dX7_readText_87 rfl ?_
                refine aw_bipush (pc := 89) C dX7_readText_89 (i := (46 : Int)) (by decide) ?_
                obtain ⟨k_108, hk_108, hw⟩ := jn_out hw
                have J_108 : ∀  (h_108 : AH), k_108  h_108 → AW G p l e ({ frames := 2, cells := 0, slots := 0, locals := 42 } : Room) s m args below meth c 0 0 (MQ below (QG G (oI Q)) args s 0 0 (frA G)) 108 (eOf [(0, vR a0), (1, vI x1_31), (2, vI x2_31), (3, vI x3_31), (4, vI x4_31), (5, vI x5_47), (6, vI t0_61)]) [] h_108 := by
                  intro  h_108 hw
                  rw [hk_108] at hw
                  refine aw_iconst (pc := 108) C dX7_readText_108 (i := (1 : Int)) (by decide) ?_
                  refine aw_goto (pc := 109) (tgt := 113) C dX7_readText_109 (by decide) ?_
                  refine aw_sub [(0, vR a0), (1, vI x1_31), (2, vI x2_31), (3, vI x3_31), (4, vI x4_31), (5, vI x5_47), (6, vI t0_61)] ⟨rfl, rfl, rfl, rfl, rfl, rfl, rfl, trivial⟩ ?_
                  exact J_113 _ _ hw
                refine aw_icmp_eq (pc := 91) (tgt := 108) C dX7_readText_91 (by decide) (fun hc9 => ?_) (fun hc9 => ?_)
                · have hw := hw.1 hc9
                  refine aw_sub [(0, vR a0), (1, vI x1_31), (2, vI x2_31), (3, vI x3_31), (4, vI x4_31), (5, vI x5_47), (6, vI t0_61)] ⟨rfl, rfl, rfl, rfl, rfl, rfl, rfl, trivial⟩ ?_
                  exact J_108  _ hw
                · have hw := hw.2 hc9
                  refine aw_iload (pc := 94) C dX7_readText_94 rfl ?_
                  refine aw_callS (pc := 96) (as := [vI x5_47]) C (fun As hA => met_X7_isLetter G l As x5_47 _ _ hA hw) tw903 tw904 tw10 tw905 ⟨rfl, rfl⟩ ⟨by decide, by decide, pd_X7_isLetter⟩ ⟨Nat.le_of_ble_eq_true rfl, Nat.le_of_ble_eq_true rfl⟩ ⟨Nat.zero_le _, Nat.zero_le _⟩ (Nat.le_of_ble_eq_true rfl) dX7_readText_96 rfl (fun v9 h96 hq9 => ?_)
                  obtain ⟨r96, rfl, hw⟩ := hq9
                  refine aw_if_eq (pc := 99) (tgt := 112) C dX7_readText_99 (by decide) (fun hc9 => ?_) (fun hc9 => ?_)
                  · have hw := hw.1 hc9
                    refine aw_sub [(0, vR a0), (1, vI x1_31), (2, vI x2_31), (3, vI x3_31), (4, vI x4_31), (5, vI x5_47), (6, vI t0_61)] ⟨rfl, rfl, rfl, rfl, rfl, rfl, rfl, trivial⟩ ?_
                    exact J_112  _ hw
                  · have hw := hw.2 hc9
                    refine aw_iload_n (pc := 102) C dX7_readText_102 rfl rfl ?_
                    refine aw_bipush (pc := 103) C dX7_readText_103 (i := (40 : Int)) (by decide) ?_
                    refine aw_icmp_ge (pc := 105) (tgt := 112) C dX7_readText_105 (by decide) (fun hc9 => ?_) (fun hc9 => ?_)
                    · have hw := hw.1 hc9
                      refine aw_sub [(0, vR a0), (1, vI x1_31), (2, vI x2_31), (3, vI x3_31), (4, vI x4_31), (5, vI x5_47), (6, vI t0_61)] ⟨rfl, rfl, rfl, rfl, rfl, rfl, rfl, trivial⟩ ?_
                      exact J_112  _ hw
                    · have hw := hw.2 hc9
                      refine aw_sub [(0, vR a0), (1, vI x1_31), (2, vI x2_31), (3, vI x3_31), (4, vI x4_31), (5, vI x5_47), (6, vI t0_61)] ⟨rfl, rfl, rfl, rfl, rfl, rfl, rfl, trivial⟩ ?_
                      exact J_108  _ hw
            · have hw := hw.2 hc9
              refine aw_iload_n (pc := 68) C dX7_readText_68 rfl rfl ?_
              refine aw_iconst (pc := 69) C dX7_readText_69 (i := (4 : Int)) (by decide) ?_
              refine aw_icmp_ge (pc := 70) (tgt := 77) C dX7_readText_70 (by decide) (fun hc9 => ?_) (fun hc9 => ?_)
              · have hw := hw.1 hc9
                refine aw_iconst (pc := 77) C dX7_readText_77 (i := (0 : Int)) (by decide) ?_
                refine aw_goto (pc := 78) (tgt := 113) C dX7_readText_78 (by decide) ?_
                refine aw_sub [(0, vR a0), (1, vI x1_31), (2, vI x2_31), (3, vI x3_31), (4, vI x4_31), (5, vI x5_47), (6, vI t0_61)] ⟨rfl, rfl, rfl, rfl, rfl, rfl, rfl, trivial⟩ ?_
                exact J_113 _ _ hw
              · have hw := hw.2 hc9
                refine aw_iconst (pc := 73) C dX7_readText_73 (i := (1 : Int)) (by decide) ?_
                refine aw_goto (pc := 74) (tgt := 113) C dX7_readText_74 (by decide) ?_
                refine aw_sub [(0, vR a0), (1, vI x1_31), (2, vI x2_31), (3, vI x3_31), (4, vI x4_31), (5, vI x5_47), (6, vI t0_61)] ⟨rfl, rfl, rfl, rfl, rfl, rfl, rfl, trivial⟩ ?_
                exact J_113 _ _ hw
          refine aw_icmp_ne (pc := 53) (tgt := 60) C dX7_readText_53 (by decide) (fun hc9 => ?_) (fun hc9 => ?_)
          · have hw := hw.1 hc9
            refine aw_iconst (pc := 60) C dX7_readText_60 (i := (0 : Int)) (by decide) ?_
            refine aw_sub [(0, vR a0), (1, vI x1_31), (2, vI x2_31), (3, vI x3_31), (4, vI x4_31), (5, vI x5_47)] ⟨rfl, rfl, rfl, rfl, rfl, rfl, trivial⟩ ?_
            exact J_61 _ _ hw
          · have hw := hw.2 hc9
            refine aw_iconst (pc := 56) C dX7_readText_56 (i := (1 : Int)) (by decide) ?_
            refine aw_goto (pc := 57) (tgt := 61) C dX7_readText_57 (by decide) ?_
            refine aw_sub [(0, vR a0), (1, vI x1_31), (2, vI x2_31), (3, vI x3_31), (4, vI x4_31), (5, vI x5_47)] ⟨rfl, rfl, rfl, rfl, rfl, rfl, trivial⟩ ?_
            exact J_61 _ _ hw
      refine aw_sub [(0, vR a0), (1, vI (0 : Int)), (2, vI (0 : Int)), (3, vI (0 : Int)), (4, vI (0 : Int))] ⟨rfl, rfl, rfl, rfl, rfl, trivial⟩ ?_
      exact L_31 n9 _ _ _ _ _ hi9
    · have hw := hw.2 hc9
      refine aw_aload_n (pc := 8) C dX7_readText_8 rfl rfl ?_
      obtain ⟨hp9, b9, hb9, hw⟩ := hw
      refine aw_getR (pc := 9) C (ci := 7) (k := 19) ci7 (by decide) tw811 dX7_readText_9 rfl hp9 hb9 ?_
      refine aw_iload_n (pc := 12) C dX7_readText_12 rfl rfl ?_
      refine aw_bipush (pc := 13) C dX7_readText_13 (i := (32 : Int)) (by decide) ?_
      obtain ⟨⟨k9, hp9⟩, hw⟩ := hw
      refine aw_iast (pc := 15) C dX7_readText_15 hp9 (aw_nmH (fun h15 e9 => ?_))
      have hw := hw h15 e9
      obtain ⟨hp9, hw⟩ := hw
      refine aw_iincN (pc := 16) C dX7_readText_16 (k := 1) (by decide) rfl (by rw [hml]; decide) hp9 (fun x1_16 e9 => ?_)
      have hw := hw x1_16 e9
      refine aw_goto (pc := 19) (tgt := 2) C dX7_readText_19 (by decide) ?_
      obtain ⟨m9, hm9, hw⟩ := hw
      refine aw_sub [(0, vR a0), (1, vI x1_16)] ⟨rfl, rfl, trivial⟩ ?_
      exact ih_2 m9 hm9 _ _ hw
  refine aw_sub [(0, vR a0), (1, vI (0 : Int))] ⟨rfl, rfl, trivial⟩ ?_
  exact L_2 n9 _ _ hi9
theorem dX7_firstError_0 : decode cX7_firstError 0 = .ok (.aload_n 0, 1) := by decide +kernel
theorem dX7_firstError_1 : decode cX7_firstError 1 = .ok (.iconst 0, 1) := by decide +kernel
theorem dX7_firstError_2 : decode cX7_firstError 2 = .ok (.putfield 61, 3) := by decide +kernel
theorem dX7_firstError_5 : decode cX7_firstError 5 = .ok (.aload_n 0, 1) := by decide +kernel
theorem dX7_firstError_6 : decode cX7_firstError 6 = .ok (.invokevirtual 179, 3) := by decide +kernel
theorem dX7_firstError_9 : decode cX7_firstError 9 = .ok (.ireturn, 1) := by decide +kernel
theorem pd_X7_firstError : (parseMethodDescriptor yX7_firstError.desc).map (fun d => d.parameters.length) = some 0 := by decide +kernel
def w_X7_firstError (zz : Nat → Nat) (a0 : Nat) (h : AH) (Q : Int → AH → Prop) : Prop := okP h a0 7 ∧ ∀ h2 : AH, h2 = sfI h a0 0 (0 : Int) → okA h2 a0 7 ∧ w_X7_readText zz a0 h2 (fun (r6 : Int) (h6 : AH) => Q r6 h6)
set_option maxRecDepth 100000 in
set_option maxHeartbeats 4000000 in
theorem met_X7_firstError (G : GG) (l : Launch) : ∀ (As : List Value) (a0 : Nat) (h : AH) (Q : Int → AH → Prop), As.map ab = List.map some ([vR a0] : List AV) → w_X7_firstError G.2.2 a0 h Q → Met l yX7_firstError (.code yX7_firstError cX7_firstError 1 (some .int) :: xTb) ({ frames := 3, cells := 0, slots := 0, locals := 69 } : Room) (PcA G As h) (QG G (oI Q)) 0 0 (frA G) := by
  intro As a0 h Q hA hw
  refine met_of hA (by decide) (Nat.le_of_ble_eq_true rfl) (fun p e s m args below meth c C hml hr hnm => ?_)
  unfold w_X7_firstError at hw
  refine aw_aload_n (pc := 0) C dX7_firstError_0 rfl rfl ?_
  refine aw_iconst (pc := 1) C dX7_firstError_1 (i := (0 : Int)) (by decide) ?_
  obtain ⟨hp9, hw⟩ := hw
  refine aw_putI (pc := 2) C (ci := 7) (k := 0) ci7 (by decide) tw792 (Or.inl rfl) dX7_firstError_2 rfl hp9 (aw_nmH (fun h2 e9 => ?_))
  have hw := hw h2 e9
  refine aw_aload_n (pc := 5) C dX7_firstError_5 rfl rfl ?_
  obtain ⟨hp9, hw⟩ := hw
  refine aw_callV (pc := 6) (as := []) C ci7 (fun As hA => met_X7_readText G l As a0 _ _ hA hw) tw1001 tw1003 (tbp 57 (n := 21) (by decide +kernel)) tw10 tw1004 ⟨rfl, rfl⟩ ⟨rfl, by decide, by decide, pd_X7_readText⟩ ⟨Nat.le_of_ble_eq_true rfl, Nat.le_of_ble_eq_true rfl⟩ ⟨Nat.zero_le _, Nat.zero_le _⟩ (Nat.le_of_ble_eq_true rfl) dX7_firstError_6 rfl hp9 (fun v9 h6 hq9 => ?_)
  obtain ⟨r6, rfl, hw⟩ := hq9
  exact aw_iret (pc := 9) C hr dX7_firstError_9 ⟨Nat.le_of_ble_eq_true rfl, Nat.le_of_ble_eq_true rfl⟩ ⟨_, rfl, hw⟩
theorem dX7_load_0 : decode cX7_load 0 = .ok (.aload_n 0, 1) := by decide +kernel
theorem dX7_load_1 : decode cX7_load 1 = .ok (.iload_n 1, 1) := by decide +kernel
theorem dX7_load_2 : decode cX7_load 2 = .ok (.invokestatic 161, 3) := by decide +kernel
theorem dX7_load_5 : decode cX7_load 5 = .ok (.ifCond .ne 7, 3) := by decide +kernel
theorem dX7_load_8 : decode cX7_load 8 = .ok (.iconst 1, 1) := by decide +kernel
theorem dX7_load_9 : decode cX7_load 9 = .ok (.goto 19, 3) := by decide +kernel
theorem dX7_load_12 : decode cX7_load 12 = .ok (.aload_n 0, 1) := by decide +kernel
theorem dX7_load_13 : decode cX7_load 13 = .ok (.invokevirtual 179, 3) := by decide +kernel
theorem dX7_load_16 : decode cX7_load 16 = .ok (.aload_n 0, 1) := by decide +kernel
theorem dX7_load_17 : decode cX7_load 17 = .ok (.getfield 176, 3) := by decide +kernel
theorem dX7_load_20 : decode cX7_load 20 = .ok (.if_icmp .ge 7, 3) := by decide +kernel
theorem dX7_load_23 : decode cX7_load 23 = .ok (.iconst 2, 1) := by decide +kernel
theorem dX7_load_24 : decode cX7_load 24 = .ok (.goto 4, 3) := by decide +kernel
theorem dX7_load_27 : decode cX7_load 27 = .ok (.iconst 0, 1) := by decide +kernel
theorem dX7_load_28 : decode cX7_load 28 = .ok (.putfield 61, 3) := by decide +kernel
theorem dX7_load_31 : decode cX7_load 31 = .ok (.aload_n 0, 1) := by decide +kernel
theorem dX7_load_32 : decode cX7_load 32 = .ok (.getfield 61, 3) := by decide +kernel
theorem dX7_load_35 : decode cX7_load 35 = .ok (.ifCond .le 5, 3) := by decide +kernel
theorem dX7_load_38 : decode cX7_load 38 = .ok (.iconst 0, 1) := by decide +kernel
theorem dX7_load_39 : decode cX7_load 39 = .ok (.ireturn, 1) := by decide +kernel
theorem dX7_load_40 : decode cX7_load 40 = .ok (.aload_n 0, 1) := by decide +kernel
theorem dX7_load_41 : decode cX7_load 41 = .ok (.invokevirtual 146, 3) := by decide +kernel
theorem dX7_load_44 : decode cX7_load 44 = .ok (.iconst 0, 1) := by decide +kernel
theorem dX7_load_45 : decode cX7_load 45 = .ok (.istore_n 2, 1) := by decide +kernel
theorem dX7_load_46 : decode cX7_load 46 = .ok (.iload_n 2, 1) := by decide +kernel
theorem dX7_load_47 : decode cX7_load 47 = .ok (.bipush 80, 2) := by decide +kernel
theorem dX7_load_49 : decode cX7_load 49 = .ok (.if_icmp .ge 26, 3) := by decide +kernel
theorem dX7_load_52 : decode cX7_load 52 = .ok (.aload_n 0, 1) := by decide +kernel
theorem dX7_load_53 : decode cX7_load 53 = .ok (.getfield 7, 3) := by decide +kernel
theorem dX7_load_56 : decode cX7_load 56 = .ok (.bipush 80, 2) := by decide +kernel
theorem dX7_load_58 : decode cX7_load 58 = .ok (.iload_n 1, 1) := by decide +kernel
theorem dX7_load_59 : decode cX7_load 59 = .ok (.imul, 1) := by decide +kernel
theorem dX7_load_60 : decode cX7_load 60 = .ok (.iload_n 2, 1) := by decide +kernel
theorem dX7_load_61 : decode cX7_load 61 = .ok (.iadd, 1) := by decide +kernel
theorem dX7_load_62 : decode cX7_load 62 = .ok (.aload_n 0, 1) := by decide +kernel
theorem dX7_load_63 : decode cX7_load 63 = .ok (.getfield 55, 3) := by decide +kernel
theorem dX7_load_66 : decode cX7_load 66 = .ok (.iload_n 2, 1) := by decide +kernel
theorem dX7_load_67 : decode cX7_load 67 = .ok (.iaload, 1) := by decide +kernel
theorem dX7_load_68 : decode cX7_load 68 = .ok (.iastore, 1) := by decide +kernel
theorem dX7_load_69 : decode cX7_load 69 = .ok (.iinc 2 1, 3) := by decide +kernel
theorem dX7_load_72 : decode cX7_load 72 = .ok (.goto (-26), 3) := by decide +kernel
theorem dX7_load_75 : decode cX7_load 75 = .ok (.aload_n 0, 1) := by decide +kernel
theorem dX7_load_76 : decode cX7_load 76 = .ok (.iconst 0, 1) := by decide +kernel
theorem dX7_load_77 : decode cX7_load 77 = .ok (.putfield 176, 3) := by decide +kernel
theorem dX7_load_80 : decode cX7_load 80 = .ok (.aload_n 0, 1) := by decide +kernel
theorem dX7_load_81 : decode cX7_load 81 = .ok (.iload_n 1, 1) := by decide +kernel
theorem dX7_load_82 : decode cX7_load 82 = .ok (.invokevirtual 149, 3) := by decide +kernel
theorem dX7_load_85 : decode cX7_load 85 = .ok (.ireturn, 1) := by decide +kernel
theorem pd_X7_load : (parseMethodDescriptor yX7_load.desc).map (fun d => d.parameters.length) = some 1 := by decide +kernel
def w_X7_load (zz : Nat → Nat) (a0 : Nat) (a1 : Int) (h : AH) (Q : Int → AH → Prop) : Prop := w_X7_isText zz a1 h (fun (r2 : Int) (h2 : AH) => jn (fun (t1_28 : Int) (h_28 : AH) => okP h_28 a0 7 ∧ ∀ h28 : AH, h28 = sfI h_28 a0 0 t1_28 → okA h28 a0 7 ∧ (((hfI h28 a0 0) ≤ 0) → okA h28 a0 7 ∧ w_X7_save zz a0 h28 (fun  (h41 : AH) => ∃ I_46 : Nat → Int → AH → Prop, (∃ n, I_46 n (0 : Int) h41) ∧ ∀ (n_46 : Nat) (x2_46 : Int) (h_46 : AH), I_46 n_46 x2_46 h_46 → ((((80 : Int) ≤ x2_46) → okP h_46 a0 7 ∧ ∀ h77 : AH, h77 = sfI h_46 a0 4 (0 : Int) → okA h77 a0 7 ∧ w_X7_lettersOf zz a0 a1 h77 (fun (r82 : Int) (h82 : AH) => Q r82 h82)) ∧ ((¬ ((80 : Int) ≤ x2_46)) → okA h_46 a0 7 ∧ ∃ b53 : Nat, hfR h_46 a0 1 = some b53 ∧ inR ((80 : Int) * a1) ∧ inR (((80 : Int) * a1) + x2_46) ∧ okA h_46 a0 7 ∧ ∃ b63 : Nat, hfR h_46 a0 19 = some b63 ∧ okI h_46 b63 x2_46 ∧ okW h_46 b53 (((80 : Int) * a1) + x2_46) ∧ ∀ h68 : AH, h68 = saI h_46 b53 (u1 (haI h_46 b53) (((80 : Int) * a1) + x2_46) (haI h_46 b63 x2_46)) → inR (x2_46 + 1) ∧ ∀ x2_69 : Int, x2_69 = (x2_46 + 1) → ∃ m, m < n_46 ∧ I_46 m x2_69 h68)))) ∧ ((¬ ((hfI h28 a0 0) ≤ 0)) → Q (0 : Int) h28)) (fun k_28 : Int → AH → Prop => ((¬ r2 = 0) → okA h2 a0 7 ∧ w_X7_readText zz a0 h2 (fun (r13 : Int) (h13 : AH) => okA h13 a0 7 ∧ (((hfI h13 a0 4) ≤ r13) → k_28 (0 : Int) h13) ∧ ((¬ ((hfI h13 a0 4) ≤ r13)) → k_28 (2 : Int) h13))) ∧ ((r2 = 0) → k_28 (1 : Int) h2)))
set_option maxRecDepth 100000 in
set_option maxHeartbeats 4000000 in
theorem met_X7_load (G : GG) (l : Launch) : ∀ (As : List Value) (a0 : Nat) (a1 : Int) (h : AH) (Q : Int → AH → Prop), As.map ab = List.map some ([vR a0, vI a1] : List AV) → w_X7_load G.2.2 a0 a1 h Q → Met l yX7_load (.code yX7_load cX7_load 3 (some .int) :: xTb) ({ frames := 3, cells := 0, slots := 0, locals := 69 } : Room) (PcA G As h) (QG G (oI Q)) 0 0 (frA G) := by
  intro As a0 a1 h Q hA hw
  refine met_of hA (by decide) (Nat.le_of_ble_eq_true rfl) (fun p e s m args below meth c C hml hr hnm => ?_)
  unfold w_X7_load at hw
  refine aw_aload_n (pc := 0) C dX7_load_0 rfl rfl ?_
  refine aw_iload_n (pc := 1) C dX7_load_1 rfl rfl ?_
  refine aw_callS (pc := 2) (as := [vI a1]) C (fun As hA => met_X7_isText G l As a1 _ _ hA hw) tw897 tw898 tw10 tw899 ⟨rfl, rfl⟩ ⟨by decide, by decide, pd_X7_isText⟩ ⟨Nat.le_of_ble_eq_true rfl, Nat.le_of_ble_eq_true rfl⟩ ⟨Nat.zero_le _, Nat.zero_le _⟩ (Nat.le_of_ble_eq_true rfl) dX7_load_2 rfl (fun v9 h2 hq9 => ?_)
  obtain ⟨r2, rfl, hw⟩ := hq9
  obtain ⟨k_28, hk_28, hw⟩ := jn_out hw
  have J_28 : ∀ (t1_28 : Int) (h_28 : AH), k_28 t1_28 h_28 → AW G p l e ({ frames := 3, cells := 0, slots := 0, locals := 69 } : Room) s m args below meth c 0 0 (MQ below (QG G (oI Q)) args s 0 0 (frA G)) 28 (eOf [(0, vR a0), (1, vI a1)]) [vI t1_28, vR a0] h_28 := by
    intro t1_28 h_28 hw
    rw [hk_28] at hw
    obtain ⟨hp9, hw⟩ := hw
    refine aw_putI (pc := 28) C (ci := 7) (k := 0) ci7 (by decide) tw792 (Or.inl rfl) dX7_load_28 rfl hp9 (aw_nmH (fun h28 e9 => ?_))
    have hw := hw h28 e9
    refine aw_aload_n (pc := 31) C dX7_load_31 rfl rfl ?_
    obtain ⟨hp9, hw⟩ := hw
    refine aw_getI (pc := 32) C (ci := 7) (k := 0) ci7 (by decide) tw792 dX7_load_32 rfl hp9 ?_
    refine aw_if_le (pc := 35) (tgt := 40) C dX7_load_35 (by decide) (fun hc9 => ?_) (fun hc9 => ?_)
    · have hw := hw.1 hc9
      refine aw_aload_n (pc := 40) C dX7_load_40 rfl rfl ?_
      obtain ⟨hp9, hw⟩ := hw
      refine aw_callV (pc := 41) (as := []) C ci7 (fun As hA => met_X7_save G l As a0 _ _ hA hw) tw868 tw870 (tbp 35 (n := 21) (by decide +kernel)) tw10 tw871 ⟨rfl, rfl⟩ ⟨rfl, by decide, by decide, pd_X7_save⟩ ⟨Nat.le_of_ble_eq_true rfl, Nat.le_of_ble_eq_true rfl⟩ ⟨Nat.zero_le _, Nat.zero_le _⟩ (Nat.le_of_ble_eq_true rfl) dX7_load_41 rfl hp9 (fun v9 h41 hq9 => ?_)
      obtain ⟨rfl, hw⟩ := hq9
      refine aw_iconst (pc := 44) C dX7_load_44 (i := (0 : Int)) (by decide) ?_
      refine aw_istore_n (pc := 45) C dX7_load_45 rfl (by rw [hml]; decide) ?_
      obtain ⟨I_46, ⟨n9, hi9⟩, hst9⟩ := hw
      have L_46 : ∀ (n_46 : Nat) (x2_46 : Int) (h_46 : AH), I_46 n_46 x2_46 h_46 → AW G p l e ({ frames := 3, cells := 0, slots := 0, locals := 69 } : Room) s m args below meth c 0 0 (MQ below (QG G (oI Q)) args s 0 0 (frA G)) 46 (eOf [(0, vR a0), (1, vI a1), (2, vI x2_46)]) [] h_46 := by
        intro n_46
        induction n_46 using Nat.strongRecOn with
        | _ n_46 ih_46 =>
        intro x2_46 h_46 hi9
        have hw := hst9 n_46 x2_46 h_46 hi9
        refine aw_iload_n (pc := 46) C dX7_load_46 rfl rfl ?_
        refine aw_bipush (pc := 47) C dX7_load_47 (i := (80 : Int)) (by decide) ?_
        refine aw_icmp_ge (pc := 49) (tgt := 75) C dX7_load_49 (by decide) (fun hc9 => ?_) (fun hc9 => ?_)
        · have hw := hw.1 hc9
          refine aw_aload_n (pc := 75) C dX7_load_75 rfl rfl ?_
          refine aw_iconst (pc := 76) C dX7_load_76 (i := (0 : Int)) (by decide) ?_
          obtain ⟨hp9, hw⟩ := hw
          refine aw_putI (pc := 77) C (ci := 7) (k := 4) ci7 (by decide) tw796 (Or.inl rfl) dX7_load_77 rfl hp9 (aw_nmH (fun h77 e9 => ?_))
          have hw := hw h77 e9
          refine aw_aload_n (pc := 80) C dX7_load_80 rfl rfl ?_
          refine aw_iload_n (pc := 81) C dX7_load_81 rfl rfl ?_
          obtain ⟨hp9, hw⟩ := hw
          refine aw_callV (pc := 82) (as := [vI a1]) C ci7 (fun As hA => met_X7_lettersOf G l As a0 a1 _ _ hA hw) tw872 tw874 (tbp 36 (n := 21) (by decide +kernel)) tw10 tw875 ⟨rfl, rfl⟩ ⟨rfl, by decide, by decide, pd_X7_lettersOf⟩ ⟨Nat.le_of_ble_eq_true rfl, Nat.le_of_ble_eq_true rfl⟩ ⟨Nat.zero_le _, Nat.zero_le _⟩ (Nat.le_of_ble_eq_true rfl) dX7_load_82 rfl hp9 (fun v9 h82 hq9 => ?_)
          obtain ⟨r82, rfl, hw⟩ := hq9
          exact aw_iret (pc := 85) C hr dX7_load_85 ⟨Nat.le_of_ble_eq_true rfl, Nat.le_of_ble_eq_true rfl⟩ ⟨_, rfl, hw⟩
        · have hw := hw.2 hc9
          refine aw_aload_n (pc := 52) C dX7_load_52 rfl rfl ?_
          obtain ⟨hp9, b53, hb9, hw⟩ := hw
          refine aw_getR (pc := 53) C (ci := 7) (k := 1) ci7 (by decide) tw793 dX7_load_53 rfl hp9 hb9 ?_
          refine aw_bipush (pc := 56) C dX7_load_56 (i := (80 : Int)) (by decide) ?_
          refine aw_iload_n (pc := 58) C dX7_load_58 rfl rfl ?_
          obtain ⟨hp9, hw⟩ := hw
          refine aw_imul (pc := 59) C dX7_load_59 hp9 ?_
          refine aw_iload_n (pc := 60) C dX7_load_60 rfl rfl ?_
          obtain ⟨hp9, hw⟩ := hw
          refine aw_iadd (pc := 61) C dX7_load_61 hp9 ?_
          refine aw_aload_n (pc := 62) C dX7_load_62 rfl rfl ?_
          obtain ⟨hp9, b63, hb9, hw⟩ := hw
          refine aw_getR (pc := 63) C (ci := 7) (k := 19) ci7 (by decide) tw811 dX7_load_63 rfl hp9 hb9 ?_
          refine aw_iload_n (pc := 66) C dX7_load_66 rfl rfl ?_
          obtain ⟨⟨k9, hp9⟩, hw⟩ := hw
          refine aw_iald (pc := 67) C dX7_load_67 hp9 ?_
          obtain ⟨⟨k9, hp9⟩, hw⟩ := hw
          refine aw_iast (pc := 68) C dX7_load_68 hp9 (aw_nmH (fun h68 e9 => ?_))
          have hw := hw h68 e9
          obtain ⟨hp9, hw⟩ := hw
          refine aw_iincN (pc := 69) C dX7_load_69 (k := 1) (by decide) rfl (by rw [hml]; decide) hp9 (fun x2_69 e9 => ?_)
          have hw := hw x2_69 e9
          refine aw_goto (pc := 72) (tgt := 46) C dX7_load_72 (by decide) ?_
          obtain ⟨m9, hm9, hw⟩ := hw
          refine aw_sub [(0, vR a0), (1, vI a1), (2, vI x2_69)] ⟨rfl, rfl, rfl, trivial⟩ ?_
          exact ih_46 m9 hm9 _ _ hw
      refine aw_sub [(0, vR a0), (1, vI a1), (2, vI (0 : Int))] ⟨rfl, rfl, rfl, trivial⟩ ?_
      exact L_46 n9 _ _ hi9
    · have hw := hw.2 hc9
      refine aw_iconst (pc := 38) C dX7_load_38 (i := (0 : Int)) (by decide) ?_
      exact aw_iret (pc := 39) C hr dX7_load_39 ⟨Nat.le_of_ble_eq_true rfl, Nat.le_of_ble_eq_true rfl⟩ ⟨_, rfl, hw⟩
  refine aw_if_ne (pc := 5) (tgt := 12) C dX7_load_5 (by decide) (fun hc9 => ?_) (fun hc9 => ?_)
  · have hw := hw.1 hc9
    refine aw_aload_n (pc := 12) C dX7_load_12 rfl rfl ?_
    obtain ⟨hp9, hw⟩ := hw
    refine aw_callV (pc := 13) (as := []) C ci7 (fun As hA => met_X7_readText G l As a0 _ _ hA hw) tw1001 tw1003 (tbp 57 (n := 21) (by decide +kernel)) tw10 tw1004 ⟨rfl, rfl⟩ ⟨rfl, by decide, by decide, pd_X7_readText⟩ ⟨Nat.le_of_ble_eq_true rfl, Nat.le_of_ble_eq_true rfl⟩ ⟨Nat.zero_le _, Nat.zero_le _⟩ (Nat.le_of_ble_eq_true rfl) dX7_load_13 rfl hp9 (fun v9 h13 hq9 => ?_)
    obtain ⟨r13, rfl, hw⟩ := hq9
    refine aw_aload_n (pc := 16) C dX7_load_16 rfl rfl ?_
    obtain ⟨hp9, hw⟩ := hw
    refine aw_getI (pc := 17) C (ci := 7) (k := 4) ci7 (by decide) tw796 dX7_load_17 rfl hp9 ?_
    refine aw_icmp_ge (pc := 20) (tgt := 27) C dX7_load_20 (by decide) (fun hc9 => ?_) (fun hc9 => ?_)
    · have hw := hw.1 hc9
      refine aw_iconst (pc := 27) C dX7_load_27 (i := (0 : Int)) (by decide) ?_
      refine aw_sub [(0, vR a0), (1, vI a1)] ⟨rfl, rfl, trivial⟩ ?_
      exact J_28 _ _ hw
    · have hw := hw.2 hc9
      refine aw_iconst (pc := 23) C dX7_load_23 (i := (2 : Int)) (by decide) ?_
      refine aw_goto (pc := 24) (tgt := 28) C dX7_load_24 (by decide) ?_
      refine aw_sub [(0, vR a0), (1, vI a1)] ⟨rfl, rfl, trivial⟩ ?_
      exact J_28 _ _ hw
  · have hw := hw.2 hc9
    refine aw_iconst (pc := 8) C dX7_load_8 (i := (1 : Int)) (by decide) ?_
    refine aw_goto (pc := 9) (tgt := 28) C dX7_load_9 (by decide) ?_
    refine aw_sub [(0, vR a0), (1, vI a1)] ⟨rfl, rfl, trivial⟩ ?_
    exact J_28 _ _ hw
theorem dX7_letterNow_0 : decode cX7_letterNow 0 = .ok (.bipush 40, 2) := by decide +kernel
theorem dX7_letterNow_2 : decode cX7_letterNow 2 = .ok (.iload_n 1, 1) := by decide +kernel
theorem dX7_letterNow_3 : decode cX7_letterNow 3 = .ok (.imul, 1) := by decide +kernel
theorem dX7_letterNow_4 : decode cX7_letterNow 4 = .ok (.iload_n 2, 1) := by decide +kernel
theorem dX7_letterNow_5 : decode cX7_letterNow 5 = .ok (.iadd, 1) := by decide +kernel
theorem dX7_letterNow_6 : decode cX7_letterNow 6 = .ok (.istore 4, 2) := by decide +kernel
theorem dX7_letterNow_8 : decode cX7_letterNow 8 = .ok (.iload_n 3, 1) := by decide +kernel
theorem dX7_letterNow_9 : decode cX7_letterNow 9 = .ok (.tableswitch 81 0 4 #[35, 46, 57, 65, 73], 35) := by decide +kernel
theorem dX7_letterNow_44 : decode cX7_letterNow 44 = .ok (.aload_n 0, 1) := by decide +kernel
theorem dX7_letterNow_45 : decode cX7_letterNow 45 = .ok (.getfield 22, 3) := by decide +kernel
theorem dX7_letterNow_48 : decode cX7_letterNow 48 = .ok (.iload 4, 2) := by decide +kernel
theorem dX7_letterNow_50 : decode cX7_letterNow 50 = .ok (.iaload, 1) := by decide +kernel
theorem dX7_letterNow_51 : decode cX7_letterNow 51 = .ok (.bipush 16, 2) := by decide +kernel
theorem dX7_letterNow_53 : decode cX7_letterNow 53 = .ok (.idiv, 1) := by decide +kernel
theorem dX7_letterNow_54 : decode cX7_letterNow 54 = .ok (.ireturn, 1) := by decide +kernel
theorem dX7_letterNow_55 : decode cX7_letterNow 55 = .ok (.aload_n 0, 1) := by decide +kernel
theorem dX7_letterNow_56 : decode cX7_letterNow 56 = .ok (.getfield 22, 3) := by decide +kernel
theorem dX7_letterNow_59 : decode cX7_letterNow 59 = .ok (.iload 4, 2) := by decide +kernel
theorem dX7_letterNow_61 : decode cX7_letterNow 61 = .ok (.iaload, 1) := by decide +kernel
theorem dX7_letterNow_62 : decode cX7_letterNow 62 = .ok (.bipush 16, 2) := by decide +kernel
theorem dX7_letterNow_64 : decode cX7_letterNow 64 = .ok (.irem, 1) := by decide +kernel
theorem dX7_letterNow_65 : decode cX7_letterNow 65 = .ok (.ireturn, 1) := by decide +kernel
theorem dX7_letterNow_66 : decode cX7_letterNow 66 = .ok (.aload_n 0, 1) := by decide +kernel
theorem dX7_letterNow_67 : decode cX7_letterNow 67 = .ok (.getfield 25, 3) := by decide +kernel
theorem dX7_letterNow_70 : decode cX7_letterNow 70 = .ok (.iload 4, 2) := by decide +kernel
theorem dX7_letterNow_72 : decode cX7_letterNow 72 = .ok (.iaload, 1) := by decide +kernel
theorem dX7_letterNow_73 : decode cX7_letterNow 73 = .ok (.ireturn, 1) := by decide +kernel
theorem dX7_letterNow_74 : decode cX7_letterNow 74 = .ok (.aload_n 0, 1) := by decide +kernel
theorem dX7_letterNow_75 : decode cX7_letterNow 75 = .ok (.getfield 28, 3) := by decide +kernel
theorem dX7_letterNow_78 : decode cX7_letterNow 78 = .ok (.iload 4, 2) := by decide +kernel
theorem dX7_letterNow_80 : decode cX7_letterNow 80 = .ok (.iaload, 1) := by decide +kernel
theorem dX7_letterNow_81 : decode cX7_letterNow 81 = .ok (.ireturn, 1) := by decide +kernel
theorem dX7_letterNow_82 : decode cX7_letterNow 82 = .ok (.aload_n 0, 1) := by decide +kernel
theorem dX7_letterNow_83 : decode cX7_letterNow 83 = .ok (.getfield 31, 3) := by decide +kernel
theorem dX7_letterNow_86 : decode cX7_letterNow 86 = .ok (.iload 4, 2) := by decide +kernel
theorem dX7_letterNow_88 : decode cX7_letterNow 88 = .ok (.iaload, 1) := by decide +kernel
theorem dX7_letterNow_89 : decode cX7_letterNow 89 = .ok (.ireturn, 1) := by decide +kernel
theorem dX7_letterNow_90 : decode cX7_letterNow 90 = .ok (.aload_n 0, 1) := by decide +kernel
theorem dX7_letterNow_91 : decode cX7_letterNow 91 = .ok (.getfield 28, 3) := by decide +kernel
theorem dX7_letterNow_94 : decode cX7_letterNow 94 = .ok (.iload 4, 2) := by decide +kernel
theorem dX7_letterNow_96 : decode cX7_letterNow 96 = .ok (.iaload, 1) := by decide +kernel
theorem dX7_letterNow_97 : decode cX7_letterNow 97 = .ok (.iconst (-1), 1) := by decide +kernel
theorem dX7_letterNow_98 : decode cX7_letterNow 98 = .ok (.if_icmp .ne 7, 3) := by decide +kernel
theorem dX7_letterNow_101 : decode cX7_letterNow 101 = .ok (.iconst 0, 1) := by decide +kernel
theorem dX7_letterNow_102 : decode cX7_letterNow 102 = .ok (.goto 34, 3) := by decide +kernel
theorem dX7_letterNow_105 : decode cX7_letterNow 105 = .ok (.iload_n 1, 1) := by decide +kernel
theorem dX7_letterNow_106 : decode cX7_letterNow 106 = .ok (.ifCond .ne 18, 3) := by decide +kernel
theorem dX7_letterNow_109 : decode cX7_letterNow 109 = .ok (.aload_n 0, 1) := by decide +kernel
theorem dX7_letterNow_110 : decode cX7_letterNow 110 = .ok (.iload_n 2, 1) := by decide +kernel
theorem dX7_letterNow_111 : decode cX7_letterNow 111 = .ok (.aload_n 0, 1) := by decide +kernel
theorem dX7_letterNow_112 : decode cX7_letterNow 112 = .ok (.getfield 28, 3) := by decide +kernel
theorem dX7_letterNow_115 : decode cX7_letterNow 115 = .ok (.iload 4, 2) := by decide +kernel
theorem dX7_letterNow_117 : decode cX7_letterNow 117 = .ok (.iaload, 1) := by decide +kernel
theorem dX7_letterNow_118 : decode cX7_letterNow 118 = .ok (.invokevirtual 84, 3) := by decide +kernel
theorem dX7_letterNow_121 : decode cX7_letterNow 121 = .ok (.goto 15, 3) := by decide +kernel
theorem dX7_letterNow_124 : decode cX7_letterNow 124 = .ok (.aload_n 0, 1) := by decide +kernel
theorem dX7_letterNow_125 : decode cX7_letterNow 125 = .ok (.aload_n 0, 1) := by decide +kernel
theorem dX7_letterNow_126 : decode cX7_letterNow 126 = .ok (.getfield 28, 3) := by decide +kernel
theorem dX7_letterNow_129 : decode cX7_letterNow 129 = .ok (.iload 4, 2) := by decide +kernel
theorem dX7_letterNow_131 : decode cX7_letterNow 131 = .ok (.iaload, 1) := by decide +kernel
theorem dX7_letterNow_132 : decode cX7_letterNow 132 = .ok (.iload_n 2, 1) := by decide +kernel
theorem dX7_letterNow_133 : decode cX7_letterNow 133 = .ok (.invokevirtual 84, 3) := by decide +kernel
theorem dX7_letterNow_136 : decode cX7_letterNow 136 = .ok (.ireturn, 1) := by decide +kernel
theorem pd_X7_letterNow : (parseMethodDescriptor yX7_letterNow.desc).map (fun d => d.parameters.length) = some 3 := by decide +kernel
def w_X7_letterNow (zz : Nat → Nat) (a0 : Nat) (a1 : Int) (a2 : Int) (a3 : Int) (h : AH) (Q : Int → AH → Prop) : Prop := inR ((40 : Int) * a1) ∧ inR (((40 : Int) * a1) + a2) ∧ ∀ x4_6 : Int, x4_6 = (((40 : Int) * a1) + a2) → (a3 = 0 → okA h a0 7 ∧ ∃ b45 : Nat, hfR h a0 7 = some b45 ∧ okI h b45 x4_6 ∧ (0 ≤ (haI h b45 x4_6) ∧ 0 < (16 : Int)) ∧ Q ((haI h b45 x4_6) / (16 : Int)) h) ∧ (a3 = 1 → okA h a0 7 ∧ ∃ b56 : Nat, hfR h a0 7 = some b56 ∧ okI h b56 x4_6 ∧ (0 ≤ (haI h b56 x4_6) ∧ 0 < (16 : Int)) ∧ Q ((haI h b56 x4_6) % (16 : Int)) h) ∧ (a3 = 2 → okA h a0 7 ∧ ∃ b67 : Nat, hfR h a0 8 = some b67 ∧ okI h b67 x4_6 ∧ Q (haI h b67 x4_6) h) ∧ (a3 = 3 → okA h a0 7 ∧ ∃ b75 : Nat, hfR h a0 9 = some b75 ∧ okI h b75 x4_6 ∧ Q (haI h b75 x4_6) h) ∧ (a3 = 4 → okA h a0 7 ∧ ∃ b83 : Nat, hfR h a0 10 = some b83 ∧ okI h b83 x4_6 ∧ Q (haI h b83 x4_6) h) ∧ ((a3 < 0 ∨ 4 < a3) → okA h a0 7 ∧ ∃ b91 : Nat, hfR h a0 9 = some b91 ∧ okI h b91 x4_6 ∧ jn (fun (t0_136 : Int) (h_136 : AH) => Q t0_136 h_136) (fun k_136 : Int → AH → Prop => ((¬ (haI h b91 x4_6) = (-1 : Int)) → ((¬ a1 = 0) → okA h a0 7 ∧ ∃ b126 : Nat, hfR h a0 9 = some b126 ∧ okI h b126 x4_6 ∧ okA h a0 7 ∧ w_X7_distance zz a0 (haI h b126 x4_6) a2 h (fun (r133 : Int) (h133 : AH) => k_136 r133 h133)) ∧ ((a1 = 0) → okA h a0 7 ∧ ∃ b112 : Nat, hfR h a0 9 = some b112 ∧ okI h b112 x4_6 ∧ okA h a0 7 ∧ w_X7_distance zz a0 a2 (haI h b112 x4_6) h (fun (r118 : Int) (h118 : AH) => k_136 r118 h118))) ∧ (((haI h b91 x4_6) = (-1 : Int)) → k_136 (0 : Int) h)))
set_option maxRecDepth 100000 in
set_option maxHeartbeats 4000000 in
theorem met_X7_letterNow (G : GG) (l : Launch) : ∀ (As : List Value) (a0 : Nat) (a1 : Int) (a2 : Int) (a3 : Int) (h : AH) (Q : Int → AH → Prop), As.map ab = List.map some ([vR a0, vI a1, vI a2, vI a3] : List AV) → w_X7_letterNow G.2.2 a0 a1 a2 a3 h Q → Met l yX7_letterNow (.code yX7_letterNow cX7_letterNow 5 (some .int) :: xTb) ({ frames := 2, cells := 0, slots := 0, locals := 45 } : Room) (PcA G As h) (QG G (oI Q)) 0 0 (frA G) := by
  intro As a0 a1 a2 a3 h Q hA hw
  refine met_of hA (by decide) (Nat.le_of_ble_eq_true rfl) (fun p e s m args below meth c C hml hr hnm => ?_)
  unfold w_X7_letterNow at hw
  refine aw_bipush (pc := 0) C dX7_letterNow_0 (i := (40 : Int)) (by decide) ?_
  refine aw_iload_n (pc := 2) C dX7_letterNow_2 rfl rfl ?_
  obtain ⟨hp9, hw⟩ := hw
  refine aw_imul (pc := 3) C dX7_letterNow_3 hp9 ?_
  refine aw_iload_n (pc := 4) C dX7_letterNow_4 rfl rfl ?_
  obtain ⟨hp9, hw⟩ := hw
  refine aw_iadd (pc := 5) C dX7_letterNow_5 hp9 ?_
  refine aw_nmI (fun x4_6 e9 => ?_)
  have hw := hw x4_6 e9
  refine aw_istore (pc := 6) C dX7_letterNow_6 (by rw [hml]; decide) ?_
  refine aw_iload_n (pc := 8) C dX7_letterNow_8 rfl rfl ?_
  have hcs9 : a3 = 0 ∨ a3 = 1 ∨ a3 = 2 ∨ a3 = 3 ∨ a3 = 4 ∨ (a3 < 0 ∨ 4 < a3) := by omega
  rcases hcs9 with hc9 | hc9 | hc9 | hc9 | hc9 | hc9
  · have hw := hw.1 hc9
    refine aw_tableIn (pc := 9) (off := 35) (tgt := 44) C dX7_letterNow_9 (by omega) (by omega) (by rw [hc9]; rfl) (by decide) ?_
    refine aw_aload_n (pc := 44) C dX7_letterNow_44 rfl rfl ?_
    obtain ⟨hp9, b45, hb9, hw⟩ := hw
    refine aw_getR (pc := 45) C (ci := 7) (k := 7) ci7 (by decide) tw799 dX7_letterNow_45 rfl hp9 hb9 ?_
    refine aw_iload (pc := 48) C dX7_letterNow_48 rfl ?_
    obtain ⟨⟨k9, hp9⟩, hw⟩ := hw
    refine aw_iald (pc := 50) C dX7_letterNow_50 hp9 ?_
    refine aw_bipush (pc := 51) C dX7_letterNow_51 (i := (16 : Int)) (by decide) ?_
    obtain ⟨hp9, hw⟩ := hw
    refine aw_idiv (pc := 53) C dX7_letterNow_53 hp9 ?_
    exact aw_iret (pc := 54) C hr dX7_letterNow_54 ⟨Nat.le_of_ble_eq_true rfl, Nat.le_of_ble_eq_true rfl⟩ ⟨_, rfl, hw⟩
  · have hw := hw.2.1 hc9
    refine aw_tableIn (pc := 9) (off := 46) (tgt := 55) C dX7_letterNow_9 (by omega) (by omega) (by rw [hc9]; rfl) (by decide) ?_
    refine aw_aload_n (pc := 55) C dX7_letterNow_55 rfl rfl ?_
    obtain ⟨hp9, b56, hb9, hw⟩ := hw
    refine aw_getR (pc := 56) C (ci := 7) (k := 7) ci7 (by decide) tw799 dX7_letterNow_56 rfl hp9 hb9 ?_
    refine aw_iload (pc := 59) C dX7_letterNow_59 rfl ?_
    obtain ⟨⟨k9, hp9⟩, hw⟩ := hw
    refine aw_iald (pc := 61) C dX7_letterNow_61 hp9 ?_
    refine aw_bipush (pc := 62) C dX7_letterNow_62 (i := (16 : Int)) (by decide) ?_
    obtain ⟨hp9, hw⟩ := hw
    refine aw_irem (pc := 64) C dX7_letterNow_64 hp9 ?_
    exact aw_iret (pc := 65) C hr dX7_letterNow_65 ⟨Nat.le_of_ble_eq_true rfl, Nat.le_of_ble_eq_true rfl⟩ ⟨_, rfl, hw⟩
  · have hw := hw.2.2.1 hc9
    refine aw_tableIn (pc := 9) (off := 57) (tgt := 66) C dX7_letterNow_9 (by omega) (by omega) (by rw [hc9]; rfl) (by decide) ?_
    refine aw_aload_n (pc := 66) C dX7_letterNow_66 rfl rfl ?_
    obtain ⟨hp9, b67, hb9, hw⟩ := hw
    refine aw_getR (pc := 67) C (ci := 7) (k := 8) ci7 (by decide) tw800 dX7_letterNow_67 rfl hp9 hb9 ?_
    refine aw_iload (pc := 70) C dX7_letterNow_70 rfl ?_
    obtain ⟨⟨k9, hp9⟩, hw⟩ := hw
    refine aw_iald (pc := 72) C dX7_letterNow_72 hp9 ?_
    exact aw_iret (pc := 73) C hr dX7_letterNow_73 ⟨Nat.le_of_ble_eq_true rfl, Nat.le_of_ble_eq_true rfl⟩ ⟨_, rfl, hw⟩
  · have hw := hw.2.2.2.1 hc9
    refine aw_tableIn (pc := 9) (off := 65) (tgt := 74) C dX7_letterNow_9 (by omega) (by omega) (by rw [hc9]; rfl) (by decide) ?_
    refine aw_aload_n (pc := 74) C dX7_letterNow_74 rfl rfl ?_
    obtain ⟨hp9, b75, hb9, hw⟩ := hw
    refine aw_getR (pc := 75) C (ci := 7) (k := 9) ci7 (by decide) tw801 dX7_letterNow_75 rfl hp9 hb9 ?_
    refine aw_iload (pc := 78) C dX7_letterNow_78 rfl ?_
    obtain ⟨⟨k9, hp9⟩, hw⟩ := hw
    refine aw_iald (pc := 80) C dX7_letterNow_80 hp9 ?_
    exact aw_iret (pc := 81) C hr dX7_letterNow_81 ⟨Nat.le_of_ble_eq_true rfl, Nat.le_of_ble_eq_true rfl⟩ ⟨_, rfl, hw⟩
  · have hw := hw.2.2.2.2.1 hc9
    refine aw_tableIn (pc := 9) (off := 73) (tgt := 82) C dX7_letterNow_9 (by omega) (by omega) (by rw [hc9]; rfl) (by decide) ?_
    refine aw_aload_n (pc := 82) C dX7_letterNow_82 rfl rfl ?_
    obtain ⟨hp9, b83, hb9, hw⟩ := hw
    refine aw_getR (pc := 83) C (ci := 7) (k := 10) ci7 (by decide) tw802 dX7_letterNow_83 rfl hp9 hb9 ?_
    refine aw_iload (pc := 86) C dX7_letterNow_86 rfl ?_
    obtain ⟨⟨k9, hp9⟩, hw⟩ := hw
    refine aw_iald (pc := 88) C dX7_letterNow_88 hp9 ?_
    exact aw_iret (pc := 89) C hr dX7_letterNow_89 ⟨Nat.le_of_ble_eq_true rfl, Nat.le_of_ble_eq_true rfl⟩ ⟨_, rfl, hw⟩
  · have hw := hw.2.2.2.2.2 hc9
    refine aw_tableOut (pc := 9) (tgt := 90) C dX7_letterNow_9 hc9 (by decide) ?_
    refine aw_aload_n (pc := 90) C dX7_letterNow_90 rfl rfl ?_
    obtain ⟨hp9, b91, hb9, hw⟩ := hw
    refine aw_getR (pc := 91) C (ci := 7) (k := 9) ci7 (by decide) tw801 dX7_letterNow_91 rfl hp9 hb9 ?_
    refine aw_iload (pc := 94) C dX7_letterNow_94 rfl ?_
    obtain ⟨⟨k9, hp9⟩, hw⟩ := hw
    refine aw_iald (pc := 96) C dX7_letterNow_96 hp9 ?_
    refine aw_iconst (pc := 97) C dX7_letterNow_97 (i := (-1 : Int)) (by decide) ?_
    obtain ⟨k_136, hk_136, hw⟩ := jn_out hw
    have J_136 : ∀ (t0_136 : Int) (h_136 : AH), k_136 t0_136 h_136 → AW G p l e ({ frames := 2, cells := 0, slots := 0, locals := 45 } : Room) s m args below meth c 0 0 (MQ below (QG G (oI Q)) args s 0 0 (frA G)) 136 (eOf []) [vI t0_136] h_136 := by
      intro t0_136 h_136 hw
      rw [hk_136] at hw
      exact aw_iret (pc := 136) C hr dX7_letterNow_136 ⟨Nat.le_of_ble_eq_true rfl, Nat.le_of_ble_eq_true rfl⟩ ⟨_, rfl, hw⟩
    refine aw_icmp_ne (pc := 98) (tgt := 105) C dX7_letterNow_98 (by decide) (fun hc9 => ?_) (fun hc9 => ?_)
    · have hw := hw.1 hc9
      refine aw_iload_n (pc := 105) C dX7_letterNow_105 rfl rfl ?_
      refine aw_if_ne (pc := 106) (tgt := 124) C dX7_letterNow_106 (by decide) (fun hc9 => ?_) (fun hc9 => ?_)
      · have hw := hw.1 hc9
        refine aw_aload_n (pc := 124) C dX7_letterNow_124 rfl rfl ?_
        refine aw_aload_n (pc := 125) C dX7_letterNow_125 rfl rfl ?_
        obtain ⟨hp9, b126, hb9, hw⟩ := hw
        refine aw_getR (pc := 126) C (ci := 7) (k := 9) ci7 (by decide) tw801 dX7_letterNow_126 rfl hp9 hb9 ?_
        refine aw_iload (pc := 129) C dX7_letterNow_129 rfl ?_
        obtain ⟨⟨k9, hp9⟩, hw⟩ := hw
        refine aw_iald (pc := 131) C dX7_letterNow_131 hp9 ?_
        refine aw_iload_n (pc := 132) C dX7_letterNow_132 rfl rfl ?_
        obtain ⟨hp9, hw⟩ := hw
        refine aw_callV (pc := 133) (as := [vI (haI h b126 x4_6), vI a2]) C ci7 (fun As hA => met_X7_distance G l As a0 (haI h b126 x4_6) a2 _ _ hA hw) tw938 tw940 (tbp 45 (n := 21) (by decide +kernel)) tw10 tw941 ⟨rfl, rfl⟩ ⟨rfl, by decide, by decide, pd_X7_distance⟩ ⟨Nat.le_of_ble_eq_true rfl, Nat.le_of_ble_eq_true rfl⟩ ⟨Nat.zero_le _, Nat.zero_le _⟩ (Nat.le_of_ble_eq_true rfl) dX7_letterNow_133 rfl hp9 (fun v9 h133 hq9 => ?_)
        obtain ⟨r133, rfl, hw⟩ := hq9
        refine aw_sub [] trivial ?_
        exact J_136 _ _ hw
      · have hw := hw.2 hc9
        refine aw_aload_n (pc := 109) C dX7_letterNow_109 rfl rfl ?_
        refine aw_iload_n (pc := 110) C dX7_letterNow_110 rfl rfl ?_
        refine aw_aload_n (pc := 111) C dX7_letterNow_111 rfl rfl ?_
        obtain ⟨hp9, b112, hb9, hw⟩ := hw
        refine aw_getR (pc := 112) C (ci := 7) (k := 9) ci7 (by decide) tw801 dX7_letterNow_112 rfl hp9 hb9 ?_
        refine aw_iload (pc := 115) C dX7_letterNow_115 rfl ?_
        obtain ⟨⟨k9, hp9⟩, hw⟩ := hw
        refine aw_iald (pc := 117) C dX7_letterNow_117 hp9 ?_
        obtain ⟨hp9, hw⟩ := hw
        refine aw_callV (pc := 118) (as := [vI a2, vI (haI h b112 x4_6)]) C ci7 (fun As hA => met_X7_distance G l As a0 a2 (haI h b112 x4_6) _ _ hA hw) tw938 tw940 (tbp 45 (n := 21) (by decide +kernel)) tw10 tw941 ⟨rfl, rfl⟩ ⟨rfl, by decide, by decide, pd_X7_distance⟩ ⟨Nat.le_of_ble_eq_true rfl, Nat.le_of_ble_eq_true rfl⟩ ⟨Nat.zero_le _, Nat.zero_le _⟩ (Nat.le_of_ble_eq_true rfl) dX7_letterNow_118 rfl hp9 (fun v9 h118 hq9 => ?_)
        obtain ⟨r118, rfl, hw⟩ := hq9
        refine aw_goto (pc := 121) (tgt := 136) C dX7_letterNow_121 (by decide) ?_
        refine aw_sub [] trivial ?_
        exact J_136 _ _ hw
    · have hw := hw.2 hc9
      refine aw_iconst (pc := 101) C dX7_letterNow_101 (i := (0 : Int)) (by decide) ?_
      refine aw_goto (pc := 102) (tgt := 136) C dX7_letterNow_102 (by decide) ?_
      refine aw_sub [] trivial ?_
      exact J_136 _ _ hw
theorem dX7_letter_0 : decode cX7_letter 0 = .ok (.aload_n 0, 1) := by decide +kernel
theorem dX7_letter_1 : decode cX7_letter 1 = .ok (.invokevirtual 170, 3) := by decide +kernel
theorem dX7_letter_4 : decode cX7_letter 4 = .ok (.iload_n 1, 1) := by decide +kernel
theorem dX7_letter_5 : decode cX7_letter 5 = .ok (.invokestatic 161, 3) := by decide +kernel
theorem dX7_letter_8 : decode cX7_letter 8 = .ok (.ifCond .eq 34, 3) := by decide +kernel
theorem dX7_letter_11 : decode cX7_letter 11 = .ok (.iload_n 2, 1) := by decide +kernel
theorem dX7_letter_12 : decode cX7_letter 12 = .ok (.iconst 0, 1) := by decide +kernel
theorem dX7_letter_13 : decode cX7_letter 13 = .ok (.aload_n 0, 1) := by decide +kernel
theorem dX7_letter_14 : decode cX7_letter 14 = .ok (.getfield 19, 3) := by decide +kernel
theorem dX7_letter_17 : decode cX7_letter 17 = .ok (.iload_n 1, 1) := by decide +kernel
theorem dX7_letter_18 : decode cX7_letter 18 = .ok (.invokestatic 161, 3) := by decide +kernel
theorem dX7_letter_21 : decode cX7_letter 21 = .ok (.ifCond .eq 7, 3) := by decide +kernel
theorem dX7_letter_24 : decode cX7_letter 24 = .ok (.iload_n 1, 1) := by decide +kernel
theorem dX7_letter_25 : decode cX7_letter 25 = .ok (.goto 4, 3) := by decide +kernel
theorem dX7_letter_28 : decode cX7_letter 28 = .ok (.iconst 0, 1) := by decide +kernel
theorem dX7_letter_29 : decode cX7_letter 29 = .ok (.iaload, 1) := by decide +kernel
theorem dX7_letter_30 : decode cX7_letter 30 = .ok (.iconst 1, 1) := by decide +kernel
theorem dX7_letter_31 : decode cX7_letter 31 = .ok (.isub, 1) := by decide +kernel
theorem dX7_letter_32 : decode cX7_letter 32 = .ok (.invokestatic 65, 3) := by decide +kernel
theorem dX7_letter_35 : decode cX7_letter 35 = .ok (.ifCond .eq 7, 3) := by decide +kernel
theorem dX7_letter_38 : decode cX7_letter 38 = .ok (.iconst 1, 1) := by decide +kernel
theorem dX7_letter_39 : decode cX7_letter 39 = .ok (.goto 4, 3) := by decide +kernel
theorem dX7_letter_42 : decode cX7_letter 42 = .ok (.iconst 0, 1) := by decide +kernel
theorem dX7_letter_43 : decode cX7_letter 43 = .ok (.istore 4, 2) := by decide +kernel
theorem dX7_letter_45 : decode cX7_letter 45 = .ok (.aload_n 0, 1) := by decide +kernel
theorem dX7_letter_46 : decode cX7_letter 46 = .ok (.iload 4, 2) := by decide +kernel
theorem dX7_letter_48 : decode cX7_letter 48 = .ok (.ifCond .ne 7, 3) := by decide +kernel
theorem dX7_letter_51 : decode cX7_letter 51 = .ok (.iconst 1, 1) := by decide +kernel
theorem dX7_letter_52 : decode cX7_letter 52 = .ok (.goto 17, 3) := by decide +kernel
theorem dX7_letter_55 : decode cX7_letter 55 = .ok (.iload_n 3, 1) := by decide +kernel
theorem dX7_letter_56 : decode cX7_letter 56 = .ok (.iconst 0, 1) := by decide +kernel
theorem dX7_letter_57 : decode cX7_letter 57 = .ok (.iconst 5, 1) := by decide +kernel
theorem dX7_letter_58 : decode cX7_letter 58 = .ok (.invokestatic 65, 3) := by decide +kernel
theorem dX7_letter_61 : decode cX7_letter 61 = .ok (.ifCond .eq 7, 3) := by decide +kernel
theorem dX7_letter_64 : decode cX7_letter 64 = .ok (.iconst 0, 1) := by decide +kernel
theorem dX7_letter_65 : decode cX7_letter 65 = .ok (.goto 4, 3) := by decide +kernel
theorem dX7_letter_68 : decode cX7_letter 68 = .ok (.iconst 2, 1) := by decide +kernel
theorem dX7_letter_69 : decode cX7_letter 69 = .ok (.putfield 61, 3) := by decide +kernel
theorem dX7_letter_72 : decode cX7_letter 72 = .ok (.aload_n 0, 1) := by decide +kernel
theorem dX7_letter_73 : decode cX7_letter 73 = .ok (.getfield 61, 3) := by decide +kernel
theorem dX7_letter_76 : decode cX7_letter 76 = .ok (.ifCond .le 7, 3) := by decide +kernel
theorem dX7_letter_79 : decode cX7_letter 79 = .ok (.iconst 0, 1) := by decide +kernel
theorem dX7_letter_80 : decode cX7_letter 80 = .ok (.goto 10, 3) := by decide +kernel
theorem dX7_letter_83 : decode cX7_letter 83 = .ok (.aload_n 0, 1) := by decide +kernel
theorem dX7_letter_84 : decode cX7_letter 84 = .ok (.iload_n 1, 1) := by decide +kernel
theorem dX7_letter_85 : decode cX7_letter 85 = .ok (.iload_n 2, 1) := by decide +kernel
theorem dX7_letter_86 : decode cX7_letter 86 = .ok (.iload_n 3, 1) := by decide +kernel
theorem dX7_letter_87 : decode cX7_letter 87 = .ok (.invokevirtual 182, 3) := by decide +kernel
theorem dX7_letter_90 : decode cX7_letter 90 = .ok (.ireturn, 1) := by decide +kernel
theorem pd_X7_letter : (parseMethodDescriptor yX7_letter.desc).map (fun d => d.parameters.length) = some 3 := by decide +kernel
def w_X7_letter (zz : Nat → Nat) (a0 : Nat) (a1 : Int) (a2 : Int) (a3 : Int) (h : AH) (Q : Int → AH → Prop) : Prop := okA h a0 7 ∧ w_X7_lay zz a0 h (fun  (h1 : AH) => w_X7_isText zz a1 h1 (fun (r5 : Int) (h5 : AH) => jn (fun (t0_43 : Int) (h_43 : AH) => jn (fun (t1_69 : Int) (h_69 : AH) => okP h_69 a0 7 ∧ ∀ h69 : AH, h69 = sfI h_69 a0 0 t1_69 → okA h69 a0 7 ∧ jn (fun (t0_90 : Int) (h_90 : AH) => Q t0_90 h_90) (fun k_90 : Int → AH → Prop => (((hfI h69 a0 0) ≤ 0) → okA h69 a0 7 ∧ w_X7_letterNow zz a0 a1 a2 a3 h69 (fun (r87 : Int) (h87 : AH) => k_90 r87 h87)) ∧ ((¬ ((hfI h69 a0 0) ≤ 0)) → k_90 (0 : Int) h69))) (fun k_69 : Int → AH → Prop => ((¬ t0_43 = 0) → w_X7_within zz a3 (0 : Int) (5 : Int) h_43 (fun (r58 : Int) (h58 : AH) => ((r58 = 0) → k_69 (2 : Int) h58) ∧ ((¬ (r58 = 0)) → k_69 (0 : Int) h58))) ∧ ((t0_43 = 0) → k_69 (1 : Int) h_43))) (fun k_43 : Int → AH → Prop => jn (fun  (h_42 : AH) => k_43 (0 : Int) h_42) (fun k_42 : AH → Prop => ((r5 = 0) → k_42  h5) ∧ ((¬ (r5 = 0)) → okA h5 a0 7 ∧ ∃ b14 : Nat, hfR h5 a0 6 = some b14 ∧ w_X7_isText zz a1 h5 (fun (r18 : Int) (h18 : AH) => jn (fun (t3_29 : Int) (h_29 : AH) => okI h_29 b14 t3_29 ∧ inR ((haI h_29 b14 t3_29) - (1 : Int)) ∧ w_X7_within zz a2 (0 : Int) ((haI h_29 b14 t3_29) - (1 : Int)) h_29 (fun (r32 : Int) (h32 : AH) => ((r32 = 0) → k_42  h32) ∧ ((¬ (r32 = 0)) → k_43 (1 : Int) h32))) (fun k_29 : Int → AH → Prop => ((r18 = 0) → k_29 (0 : Int) h18) ∧ ((¬ (r18 = 0)) → k_29 a1 h18))))))))
set_option maxRecDepth 100000 in
set_option maxHeartbeats 4000000 in
theorem met_X7_letter (G : GG) (l : Launch) : ∀ (As : List Value) (a0 : Nat) (a1 : Int) (a2 : Int) (a3 : Int) (h : AH) (Q : Int → AH → Prop), As.map ab = List.map some ([vR a0, vI a1, vI a2, vI a3] : List AV) → w_X7_letter G.2.2 a0 a1 a2 a3 h Q → Met l yX7_letter (.code yX7_letter cX7_letter 5 (some .int) :: xTb) ({ frames := 5, cells := 0, slots := 0, locals := 117 } : Room) (PcA G As h) (QG G (oI Q)) 0 0 (frA G) := by
  intro As a0 a1 a2 a3 h Q hA hw
  refine met_of hA (by decide) (Nat.le_of_ble_eq_true rfl) (fun p e s m args below meth c C hml hr hnm => ?_)
  unfold w_X7_letter at hw
  refine aw_aload_n (pc := 0) C dX7_letter_0 rfl rfl ?_
  obtain ⟨hp9, hw⟩ := hw
  refine aw_callV (pc := 1) (as := []) C ci7 (fun As hA => met_X7_lay G l As a0 _ _ hA hw) tw910 tw912 (tbp 38 (n := 21) (by decide +kernel)) tw10 tw913 ⟨rfl, rfl⟩ ⟨rfl, by decide, by decide, pd_X7_lay⟩ ⟨Nat.le_of_ble_eq_true rfl, Nat.le_of_ble_eq_true rfl⟩ ⟨Nat.zero_le _, Nat.zero_le _⟩ (Nat.le_of_ble_eq_true rfl) dX7_letter_1 rfl hp9 (fun v9 h1 hq9 => ?_)
  obtain ⟨rfl, hw⟩ := hq9
  refine aw_iload_n (pc := 4) C dX7_letter_4 rfl rfl ?_
  refine aw_callS (pc := 5) (as := [vI a1]) C (fun As hA => met_X7_isText G l As a1 _ _ hA hw) tw897 tw898 tw10 tw899 ⟨rfl, rfl⟩ ⟨by decide, by decide, pd_X7_isText⟩ ⟨Nat.le_of_ble_eq_true rfl, Nat.le_of_ble_eq_true rfl⟩ ⟨Nat.zero_le _, Nat.zero_le _⟩ (Nat.le_of_ble_eq_true rfl) dX7_letter_5 rfl (fun v9 h5 hq9 => ?_)
  obtain ⟨r5, rfl, hw⟩ := hq9
  obtain ⟨k_43, hk_43, hw⟩ := jn_out hw
  have J_43 : ∀ (t0_43 : Int) (h_43 : AH), k_43 t0_43 h_43 → AW G p l e ({ frames := 5, cells := 0, slots := 0, locals := 117 } : Room) s m args below meth c 0 0 (MQ below (QG G (oI Q)) args s 0 0 (frA G)) 43 (eOf [(0, vR a0), (1, vI a1), (2, vI a2), (3, vI a3)]) [vI t0_43] h_43 := by
    intro t0_43 h_43 hw
    rw [hk_43] at hw
    refine aw_istore (pc := 43) C dX7_letter_43 (by rw [hml]; decide) ?_
    refine aw_aload_n (pc := 45) C dX7_letter_45 rfl rfl ?_
    refine aw_iload (pc := 46) C dX7_letter_46 rfl ?_
    obtain ⟨k_69, hk_69, hw⟩ := jn_out hw
    have J_69 : ∀ (t1_69 : Int) (h_69 : AH), k_69 t1_69 h_69 → AW G p l e ({ frames := 5, cells := 0, slots := 0, locals := 117 } : Room) s m args below meth c 0 0 (MQ below (QG G (oI Q)) args s 0 0 (frA G)) 69 (eOf [(0, vR a0), (1, vI a1), (2, vI a2), (3, vI a3)]) [vI t1_69, vR a0] h_69 := by
      intro t1_69 h_69 hw
      rw [hk_69] at hw
      obtain ⟨hp9, hw⟩ := hw
      refine aw_putI (pc := 69) C (ci := 7) (k := 0) ci7 (by decide) tw792 (Or.inl rfl) dX7_letter_69 rfl hp9 (aw_nmH (fun h69 e9 => ?_))
      have hw := hw h69 e9
      refine aw_aload_n (pc := 72) C dX7_letter_72 rfl rfl ?_
      obtain ⟨hp9, hw⟩ := hw
      refine aw_getI (pc := 73) C (ci := 7) (k := 0) ci7 (by decide) tw792 dX7_letter_73 rfl hp9 ?_
      obtain ⟨k_90, hk_90, hw⟩ := jn_out hw
      have J_90 : ∀ (t0_90 : Int) (h_90 : AH), k_90 t0_90 h_90 → AW G p l e ({ frames := 5, cells := 0, slots := 0, locals := 117 } : Room) s m args below meth c 0 0 (MQ below (QG G (oI Q)) args s 0 0 (frA G)) 90 (eOf []) [vI t0_90] h_90 := by
        intro t0_90 h_90 hw
        rw [hk_90] at hw
        exact aw_iret (pc := 90) C hr dX7_letter_90 ⟨Nat.le_of_ble_eq_true rfl, Nat.le_of_ble_eq_true rfl⟩ ⟨_, rfl, hw⟩
      refine aw_if_le (pc := 76) (tgt := 83) C dX7_letter_76 (by decide) (fun hc9 => ?_) (fun hc9 => ?_)
      · have hw := hw.1 hc9
        refine aw_aload_n (pc := 83) C dX7_letter_83 rfl rfl ?_
        refine aw_iload_n (pc := 84) C dX7_letter_84 rfl rfl ?_
        refine aw_iload_n (pc := 85) C dX7_letter_85 rfl rfl ?_
        refine aw_iload_n (pc := 86) C dX7_letter_86 rfl rfl ?_
        obtain ⟨hp9, hw⟩ := hw
        refine aw_callV (pc := 87) (as := [vI a1, vI a2, vI a3]) C ci7 (fun As hA => met_X7_letterNow G l As a0 a1 a2 a3 _ _ hA hw) tw1013 tw1015 (tbp 58 (n := 21) (by decide +kernel)) tw10 tw1016 ⟨rfl, rfl⟩ ⟨rfl, by decide, by decide, pd_X7_letterNow⟩ ⟨Nat.le_of_ble_eq_true rfl, Nat.le_of_ble_eq_true rfl⟩ ⟨Nat.zero_le _, Nat.zero_le _⟩ (Nat.le_of_ble_eq_true rfl) dX7_letter_87 rfl hp9 (fun v9 h87 hq9 => ?_)
        obtain ⟨r87, rfl, hw⟩ := hq9
        refine aw_sub [] trivial ?_
        exact J_90 _ _ hw
      · have hw := hw.2 hc9
        refine aw_iconst (pc := 79) C dX7_letter_79 (i := (0 : Int)) (by decide) ?_
        refine aw_goto (pc := 80) (tgt := 90) C dX7_letter_80 (by decide) ?_
        refine aw_sub [] trivial ?_
        exact J_90 _ _ hw
    refine aw_if_ne (pc := 48) (tgt := 55) C dX7_letter_48 (by decide) (fun hc9 => ?_) (fun hc9 => ?_)
    · have hw := hw.1 hc9
      refine aw_iload_n (pc := 55) C dX7_letter_55 rfl rfl ?_
      refine aw_iconst (pc := 56) C dX7_letter_56 (i := (0 : Int)) (by decide) ?_
      refine aw_iconst (pc := 57) C dX7_letter_57 (i := (5 : Int)) (by decide) ?_
      refine aw_callS (pc := 58) (as := [vI a3, vI (0 : Int), vI (5 : Int)]) C (fun As hA => met_X7_within G l As a3 (0 : Int) (5 : Int) _ _ hA hw) tw883 tw884 tw10 tw885 ⟨rfl, rfl⟩ ⟨by decide, by decide, pd_X7_within⟩ ⟨Nat.le_of_ble_eq_true rfl, Nat.le_of_ble_eq_true rfl⟩ ⟨Nat.zero_le _, Nat.zero_le _⟩ (Nat.le_of_ble_eq_true rfl) dX7_letter_58 rfl (fun v9 h58 hq9 => ?_)
      obtain ⟨r58, rfl, hw⟩ := hq9
      refine aw_if_eq (pc := 61) (tgt := 68) C dX7_letter_61 (by decide) (fun hc9 => ?_) (fun hc9 => ?_)
      · have hw := hw.1 hc9
        refine aw_iconst (pc := 68) C dX7_letter_68 (i := (2 : Int)) (by decide) ?_
        refine aw_sub [(0, vR a0), (1, vI a1), (2, vI a2), (3, vI a3)] ⟨rfl, rfl, rfl, rfl, trivial⟩ ?_
        exact J_69 _ _ hw
      · have hw := hw.2 hc9
        refine aw_iconst (pc := 64) C dX7_letter_64 (i := (0 : Int)) (by decide) ?_
        refine aw_goto (pc := 65) (tgt := 69) C dX7_letter_65 (by decide) ?_
        refine aw_sub [(0, vR a0), (1, vI a1), (2, vI a2), (3, vI a3)] ⟨rfl, rfl, rfl, rfl, trivial⟩ ?_
        exact J_69 _ _ hw
    · have hw := hw.2 hc9
      refine aw_iconst (pc := 51) C dX7_letter_51 (i := (1 : Int)) (by decide) ?_
      refine aw_goto (pc := 52) (tgt := 69) C dX7_letter_52 (by decide) ?_
      refine aw_sub [(0, vR a0), (1, vI a1), (2, vI a2), (3, vI a3)] ⟨rfl, rfl, rfl, rfl, trivial⟩ ?_
      exact J_69 _ _ hw
  obtain ⟨k_42, hk_42, hw⟩ := jn_out hw
  have J_42 : ∀  (h_42 : AH), k_42  h_42 → AW G p l e ({ frames := 5, cells := 0, slots := 0, locals := 117 } : Room) s m args below meth c 0 0 (MQ below (QG G (oI Q)) args s 0 0 (frA G)) 42 (eOf [(0, vR a0), (1, vI a1), (2, vI a2), (3, vI a3)]) [] h_42 := by
    intro  h_42 hw
    rw [hk_42] at hw
    refine aw_iconst (pc := 42) C dX7_letter_42 (i := (0 : Int)) (by decide) ?_
    refine aw_sub [(0, vR a0), (1, vI a1), (2, vI a2), (3, vI a3)] ⟨rfl, rfl, rfl, rfl, trivial⟩ ?_
    exact J_43 _ _ hw
  refine aw_if_eq (pc := 8) (tgt := 42) C dX7_letter_8 (by decide) (fun hc9 => ?_) (fun hc9 => ?_)
  · have hw := hw.1 hc9
    refine aw_sub [(0, vR a0), (1, vI a1), (2, vI a2), (3, vI a3)] ⟨rfl, rfl, rfl, rfl, trivial⟩ ?_
    exact J_42  _ hw
  · have hw := hw.2 hc9
    refine aw_iload_n (pc := 11) C dX7_letter_11 rfl rfl ?_
    refine aw_iconst (pc := 12) C dX7_letter_12 (i := (0 : Int)) (by decide) ?_
    refine aw_aload_n (pc := 13) C dX7_letter_13 rfl rfl ?_
    obtain ⟨hp9, b14, hb9, hw⟩ := hw
    refine aw_getR (pc := 14) C (ci := 7) (k := 6) ci7 (by decide) tw798 dX7_letter_14 rfl hp9 hb9 ?_
    refine aw_iload_n (pc := 17) C dX7_letter_17 rfl rfl ?_
    refine aw_callS (pc := 18) (as := [vI a1]) C (fun As hA => met_X7_isText G l As a1 _ _ hA hw) tw897 tw898 tw10 tw899 ⟨rfl, rfl⟩ ⟨by decide, by decide, pd_X7_isText⟩ ⟨Nat.le_of_ble_eq_true rfl, Nat.le_of_ble_eq_true rfl⟩ ⟨Nat.zero_le _, Nat.zero_le _⟩ (Nat.le_of_ble_eq_true rfl) dX7_letter_18 rfl (fun v9 h18 hq9 => ?_)
    obtain ⟨r18, rfl, hw⟩ := hq9
    obtain ⟨k_29, hk_29, hw⟩ := jn_out hw
    have J_29 : ∀ (t3_29 : Int) (h_29 : AH), k_29 t3_29 h_29 → AW G p l e ({ frames := 5, cells := 0, slots := 0, locals := 117 } : Room) s m args below meth c 0 0 (MQ below (QG G (oI Q)) args s 0 0 (frA G)) 29 (eOf [(0, vR a0), (1, vI a1), (2, vI a2), (3, vI a3)]) [vI t3_29, vR b14, vI (0 : Int), vI a2] h_29 := by
      intro t3_29 h_29 hw
      rw [hk_29] at hw
      obtain ⟨⟨k9, hp9⟩, hw⟩ := hw
      refine aw_iald (pc := 29) C dX7_letter_29 hp9 ?_
      refine aw_iconst (pc := 30) C dX7_letter_30 (i := (1 : Int)) (by decide) ?_
      obtain ⟨hp9, hw⟩ := hw
      refine aw_isub (pc := 31) C dX7_letter_31 hp9 ?_
      refine aw_callS (pc := 32) (as := [vI a2, vI (0 : Int), vI ((haI h_29 b14 t3_29) - (1 : Int))]) C (fun As hA => met_X7_within G l As a2 (0 : Int) ((haI h_29 b14 t3_29) - (1 : Int)) _ _ hA hw) tw883 tw884 tw10 tw885 ⟨rfl, rfl⟩ ⟨by decide, by decide, pd_X7_within⟩ ⟨Nat.le_of_ble_eq_true rfl, Nat.le_of_ble_eq_true rfl⟩ ⟨Nat.zero_le _, Nat.zero_le _⟩ (Nat.le_of_ble_eq_true rfl) dX7_letter_32 rfl (fun v9 h32 hq9 => ?_)
      obtain ⟨r32, rfl, hw⟩ := hq9
      refine aw_if_eq (pc := 35) (tgt := 42) C dX7_letter_35 (by decide) (fun hc9 => ?_) (fun hc9 => ?_)
      · have hw := hw.1 hc9
        refine aw_sub [(0, vR a0), (1, vI a1), (2, vI a2), (3, vI a3)] ⟨rfl, rfl, rfl, rfl, trivial⟩ ?_
        exact J_42  _ hw
      · have hw := hw.2 hc9
        refine aw_iconst (pc := 38) C dX7_letter_38 (i := (1 : Int)) (by decide) ?_
        refine aw_goto (pc := 39) (tgt := 43) C dX7_letter_39 (by decide) ?_
        refine aw_sub [(0, vR a0), (1, vI a1), (2, vI a2), (3, vI a3)] ⟨rfl, rfl, rfl, rfl, trivial⟩ ?_
        exact J_43 _ _ hw
    refine aw_if_eq (pc := 21) (tgt := 28) C dX7_letter_21 (by decide) (fun hc9 => ?_) (fun hc9 => ?_)
    · have hw := hw.1 hc9
      refine aw_iconst (pc := 28) C dX7_letter_28 (i := (0 : Int)) (by decide) ?_
      refine aw_sub [(0, vR a0), (1, vI a1), (2, vI a2), (3, vI a3)] ⟨rfl, rfl, rfl, rfl, trivial⟩ ?_
      exact J_29 _ _ hw
    · have hw := hw.2 hc9
      refine aw_iload_n (pc := 24) C dX7_letter_24 rfl rfl ?_
      refine aw_goto (pc := 25) (tgt := 29) C dX7_letter_25 (by decide) ?_
      refine aw_sub [(0, vR a0), (1, vI a1), (2, vI a2), (3, vI a3)] ⟨rfl, rfl, rfl, rfl, trivial⟩ ?_
      exact J_29 _ _ hw
theorem dX7_steps_0 : decode cX7_steps 0 = .ok (.aload_n 0, 1) := by decide +kernel
theorem dX7_steps_1 : decode cX7_steps 1 = .ok (.getfield 28, 3) := by decide +kernel
theorem dX7_steps_4 : decode cX7_steps 4 = .ok (.iload_n 1, 1) := by decide +kernel
theorem dX7_steps_5 : decode cX7_steps 5 = .ok (.iaload, 1) := by decide +kernel
theorem dX7_steps_6 : decode cX7_steps 6 = .ok (.iconst (-1), 1) := by decide +kernel
theorem dX7_steps_7 : decode cX7_steps 7 = .ok (.if_icmp .ne 5, 3) := by decide +kernel
theorem dX7_steps_10 : decode cX7_steps 10 = .ok (.iconst 0, 1) := by decide +kernel
theorem dX7_steps_11 : decode cX7_steps 11 = .ok (.ireturn, 1) := by decide +kernel
theorem dX7_steps_12 : decode cX7_steps 12 = .ok (.aload_n 0, 1) := by decide +kernel
theorem dX7_steps_13 : decode cX7_steps 13 = .ok (.getfield 22, 3) := by decide +kernel
theorem dX7_steps_16 : decode cX7_steps 16 = .ok (.iload_n 1, 1) := by decide +kernel
theorem dX7_steps_17 : decode cX7_steps 17 = .ok (.iaload, 1) := by decide +kernel
theorem dX7_steps_18 : decode cX7_steps 18 = .ok (.istore_n 2, 1) := by decide +kernel
theorem dX7_steps_19 : decode cX7_steps 19 = .ok (.aload_n 0, 1) := by decide +kernel
theorem dX7_steps_20 : decode cX7_steps 20 = .ok (.iload_n 1, 1) := by decide +kernel
theorem dX7_steps_21 : decode cX7_steps 21 = .ok (.invokevirtual 91, 3) := by decide +kernel
theorem dX7_steps_24 : decode cX7_steps 24 = .ok (.istore_n 3, 1) := by decide +kernel
theorem dX7_steps_25 : decode cX7_steps 25 = .ok (.iload_n 2, 1) := by decide +kernel
theorem dX7_steps_26 : decode cX7_steps 26 = .ok (.bipush 16, 2) := by decide +kernel
theorem dX7_steps_28 : decode cX7_steps 28 = .ok (.irem, 1) := by decide +kernel
theorem dX7_steps_29 : decode cX7_steps 29 = .ok (.iload_n 3, 1) := by decide +kernel
theorem dX7_steps_30 : decode cX7_steps 30 = .ok (.bipush 16, 2) := by decide +kernel
theorem dX7_steps_32 : decode cX7_steps 32 = .ok (.irem, 1) := by decide +kernel
theorem dX7_steps_33 : decode cX7_steps 33 = .ok (.isub, 1) := by decide +kernel
theorem dX7_steps_34 : decode cX7_steps 34 = .ok (.invokestatic 69, 3) := by decide +kernel
theorem dX7_steps_37 : decode cX7_steps 37 = .ok (.iload_n 2, 1) := by decide +kernel
theorem dX7_steps_38 : decode cX7_steps 38 = .ok (.bipush 16, 2) := by decide +kernel
theorem dX7_steps_40 : decode cX7_steps 40 = .ok (.idiv, 1) := by decide +kernel
theorem dX7_steps_41 : decode cX7_steps 41 = .ok (.iload_n 3, 1) := by decide +kernel
theorem dX7_steps_42 : decode cX7_steps 42 = .ok (.bipush 16, 2) := by decide +kernel
theorem dX7_steps_44 : decode cX7_steps 44 = .ok (.idiv, 1) := by decide +kernel
theorem dX7_steps_45 : decode cX7_steps 45 = .ok (.isub, 1) := by decide +kernel
theorem dX7_steps_46 : decode cX7_steps 46 = .ok (.invokestatic 69, 3) := by decide +kernel
theorem dX7_steps_49 : decode cX7_steps 49 = .ok (.iadd, 1) := by decide +kernel
theorem dX7_steps_50 : decode cX7_steps 50 = .ok (.ireturn, 1) := by decide +kernel
theorem pd_X7_steps : (parseMethodDescriptor yX7_steps.desc).map (fun d => d.parameters.length) = some 1 := by decide +kernel
def w_X7_steps (zz : Nat → Nat) (a0 : Nat) (a1 : Int) (h : AH) (Q : Int → AH → Prop) : Prop := okA h a0 7 ∧ ∃ b1 : Nat, hfR h a0 9 = some b1 ∧ okI h b1 a1 ∧ ((¬ (haI h b1 a1) = (-1 : Int)) → okA h a0 7 ∧ ∃ b13 : Nat, hfR h a0 7 = some b13 ∧ okI h b13 a1 ∧ ∀ x2_18 : Int, x2_18 = (haI h b13 a1) → okA h a0 7 ∧ w_X7_goal zz a0 a1 h (fun (r21 : Int) (h21 : AH) => (0 ≤ x2_18 ∧ 0 < (16 : Int)) ∧ (0 ≤ r21 ∧ 0 < (16 : Int)) ∧ inR ((x2_18 % (16 : Int)) - (r21 % (16 : Int))) ∧ w_X7_size zz ((x2_18 % (16 : Int)) - (r21 % (16 : Int))) h21 (fun (r34 : Int) (h34 : AH) => (0 ≤ x2_18 ∧ 0 < (16 : Int)) ∧ (0 ≤ r21 ∧ 0 < (16 : Int)) ∧ inR ((x2_18 / (16 : Int)) - (r21 / (16 : Int))) ∧ w_X7_size zz ((x2_18 / (16 : Int)) - (r21 / (16 : Int))) h34 (fun (r46 : Int) (h46 : AH) => inR (r34 + r46) ∧ Q (r34 + r46) h46)))) ∧ (((haI h b1 a1) = (-1 : Int)) → Q (0 : Int) h)
set_option maxRecDepth 100000 in
set_option maxHeartbeats 4000000 in
theorem met_X7_steps (G : GG) (l : Launch) : ∀ (As : List Value) (a0 : Nat) (a1 : Int) (h : AH) (Q : Int → AH → Prop), As.map ab = List.map some ([vR a0, vI a1] : List AV) → w_X7_steps G.2.2 a0 a1 h Q → Met l yX7_steps (.code yX7_steps cX7_steps 4 (some .int) :: xTb) ({ frames := 1, cells := 0, slots := 0, locals := 21 } : Room) (PcA G As h) (QG G (oI Q)) 0 0 (frA G) := by
  intro As a0 a1 h Q hA hw
  refine met_of hA (by decide) (Nat.le_of_ble_eq_true rfl) (fun p e s m args below meth c C hml hr hnm => ?_)
  unfold w_X7_steps at hw
  refine aw_aload_n (pc := 0) C dX7_steps_0 rfl rfl ?_
  obtain ⟨hp9, b1, hb9, hw⟩ := hw
  refine aw_getR (pc := 1) C (ci := 7) (k := 9) ci7 (by decide) tw801 dX7_steps_1 rfl hp9 hb9 ?_
  refine aw_iload_n (pc := 4) C dX7_steps_4 rfl rfl ?_
  obtain ⟨⟨k9, hp9⟩, hw⟩ := hw
  refine aw_iald (pc := 5) C dX7_steps_5 hp9 ?_
  refine aw_iconst (pc := 6) C dX7_steps_6 (i := (-1 : Int)) (by decide) ?_
  refine aw_icmp_ne (pc := 7) (tgt := 12) C dX7_steps_7 (by decide) (fun hc9 => ?_) (fun hc9 => ?_)
  · have hw := hw.1 hc9
    refine aw_aload_n (pc := 12) C dX7_steps_12 rfl rfl ?_
    obtain ⟨hp9, b13, hb9, hw⟩ := hw
    refine aw_getR (pc := 13) C (ci := 7) (k := 7) ci7 (by decide) tw799 dX7_steps_13 rfl hp9 hb9 ?_
    refine aw_iload_n (pc := 16) C dX7_steps_16 rfl rfl ?_
    obtain ⟨⟨k9, hp9⟩, hw⟩ := hw
    refine aw_iald (pc := 17) C dX7_steps_17 hp9 ?_
    refine aw_nmI (fun x2_18 e9 => ?_)
    have hw := hw x2_18 e9
    refine aw_istore_n (pc := 18) C dX7_steps_18 rfl (by rw [hml]; decide) ?_
    refine aw_aload_n (pc := 19) C dX7_steps_19 rfl rfl ?_
    refine aw_iload_n (pc := 20) C dX7_steps_20 rfl rfl ?_
    obtain ⟨hp9, hw⟩ := hw
    refine aw_callV (pc := 21) (as := [vI a1]) C ci7 (fun As hA => met_X7_goal G l As a0 a1 _ _ hA hw) tw965 tw967 (tbp 51 (n := 21) (by decide +kernel)) tw10 tw968 ⟨rfl, rfl⟩ ⟨rfl, by decide, by decide, pd_X7_goal⟩ ⟨Nat.le_of_ble_eq_true rfl, Nat.le_of_ble_eq_true rfl⟩ ⟨Nat.zero_le _, Nat.zero_le _⟩ (Nat.le_of_ble_eq_true rfl) dX7_steps_21 rfl hp9 (fun v9 h21 hq9 => ?_)
    obtain ⟨r21, rfl, hw⟩ := hq9
    refine aw_istore_n (pc := 24) C dX7_steps_24 rfl (by rw [hml]; decide) ?_
    refine aw_iload_n (pc := 25) C dX7_steps_25 rfl rfl ?_
    refine aw_bipush (pc := 26) C dX7_steps_26 (i := (16 : Int)) (by decide) ?_
    obtain ⟨hp9, hw⟩ := hw
    refine aw_irem (pc := 28) C dX7_steps_28 hp9 ?_
    refine aw_iload_n (pc := 29) C dX7_steps_29 rfl rfl ?_
    refine aw_bipush (pc := 30) C dX7_steps_30 (i := (16 : Int)) (by decide) ?_
    obtain ⟨hp9, hw⟩ := hw
    refine aw_irem (pc := 32) C dX7_steps_32 hp9 ?_
    obtain ⟨hp9, hw⟩ := hw
    refine aw_isub (pc := 33) C dX7_steps_33 hp9 ?_
    refine aw_callS (pc := 34) (as := [vI ((x2_18 % (16 : Int)) - (r21 % (16 : Int)))]) C (fun As hA => met_X7_size G l As ((x2_18 % (16 : Int)) - (r21 % (16 : Int))) _ _ hA hw) tw942 tw943 tw10 tw944 ⟨rfl, rfl⟩ ⟨by decide, by decide, pd_X7_size⟩ ⟨Nat.le_of_ble_eq_true rfl, Nat.le_of_ble_eq_true rfl⟩ ⟨Nat.zero_le _, Nat.zero_le _⟩ (Nat.le_of_ble_eq_true rfl) dX7_steps_34 rfl (fun v9 h34 hq9 => ?_)
    obtain ⟨r34, rfl, hw⟩ := hq9
    refine aw_iload_n (pc := 37) C dX7_steps_37 rfl rfl ?_
    refine aw_bipush (pc := 38) C dX7_steps_38 (i := (16 : Int)) (by decide) ?_
    obtain ⟨hp9, hw⟩ := hw
    refine aw_idiv (pc := 40) C dX7_steps_40 hp9 ?_
    refine aw_iload_n (pc := 41) C dX7_steps_41 rfl rfl ?_
    refine aw_bipush (pc := 42) C dX7_steps_42 (i := (16 : Int)) (by decide) ?_
    obtain ⟨hp9, hw⟩ := hw
    refine aw_idiv (pc := 44) C dX7_steps_44 hp9 ?_
    obtain ⟨hp9, hw⟩ := hw
    refine aw_isub (pc := 45) C dX7_steps_45 hp9 ?_
    refine aw_callS (pc := 46) (as := [vI ((x2_18 / (16 : Int)) - (r21 / (16 : Int)))]) C (fun As hA => met_X7_size G l As ((x2_18 / (16 : Int)) - (r21 / (16 : Int))) _ _ hA hw) tw942 tw943 tw10 tw944 ⟨rfl, rfl⟩ ⟨by decide, by decide, pd_X7_size⟩ ⟨Nat.le_of_ble_eq_true rfl, Nat.le_of_ble_eq_true rfl⟩ ⟨Nat.zero_le _, Nat.zero_le _⟩ (Nat.le_of_ble_eq_true rfl) dX7_steps_46 rfl (fun v9 h46 hq9 => ?_)
    obtain ⟨r46, rfl, hw⟩ := hq9
    obtain ⟨hp9, hw⟩ := hw
    refine aw_iadd (pc := 49) C dX7_steps_49 hp9 ?_
    exact aw_iret (pc := 50) C hr dX7_steps_50 ⟨Nat.le_of_ble_eq_true rfl, Nat.le_of_ble_eq_true rfl⟩ ⟨_, rfl, hw⟩
  · have hw := hw.2 hc9
    refine aw_iconst (pc := 10) C dX7_steps_10 (i := (0 : Int)) (by decide) ?_
    exact aw_iret (pc := 11) C hr dX7_steps_11 ⟨Nat.le_of_ble_eq_true rfl, Nat.le_of_ble_eq_true rfl⟩ ⟨_, rfl, hw⟩
theorem dX7_wayNow_0 : decode cX7_wayNow 0 = .ok (.iload_n 2, 1) := by decide +kernel
theorem dX7_wayNow_1 : decode cX7_wayNow 1 = .ok (.ifCond .ne 11, 3) := by decide +kernel
theorem dX7_wayNow_4 : decode cX7_wayNow 4 = .ok (.aload_n 0, 1) := by decide +kernel
theorem dX7_wayNow_5 : decode cX7_wayNow 5 = .ok (.iload_n 1, 1) := by decide +kernel
theorem dX7_wayNow_6 : decode cX7_wayNow 6 = .ok (.invokevirtual 186, 3) := by decide +kernel
theorem dX7_wayNow_9 : decode cX7_wayNow 9 = .ok (.goto 41, 3) := by decide +kernel
theorem dX7_wayNow_12 : decode cX7_wayNow 12 = .ok (.iload_n 2, 1) := by decide +kernel
theorem dX7_wayNow_13 : decode cX7_wayNow 13 = .ok (.iconst 1, 1) := by decide +kernel
theorem dX7_wayNow_14 : decode cX7_wayNow 14 = .ok (.if_icmp .ne 12, 3) := by decide +kernel
theorem dX7_wayNow_17 : decode cX7_wayNow 17 = .ok (.aload_n 0, 1) := by decide +kernel
theorem dX7_wayNow_18 : decode cX7_wayNow 18 = .ok (.getfield 43, 3) := by decide +kernel
theorem dX7_wayNow_21 : decode cX7_wayNow 21 = .ok (.iload_n 1, 1) := by decide +kernel
theorem dX7_wayNow_22 : decode cX7_wayNow 22 = .ok (.iaload, 1) := by decide +kernel
theorem dX7_wayNow_23 : decode cX7_wayNow 23 = .ok (.goto 27, 3) := by decide +kernel
theorem dX7_wayNow_26 : decode cX7_wayNow 26 = .ok (.aload_n 0, 1) := by decide +kernel
theorem dX7_wayNow_27 : decode cX7_wayNow 27 = .ok (.getfield 31, 3) := by decide +kernel
theorem dX7_wayNow_30 : decode cX7_wayNow 30 = .ok (.iload_n 1, 1) := by decide +kernel
theorem dX7_wayNow_31 : decode cX7_wayNow 31 = .ok (.iaload, 1) := by decide +kernel
theorem dX7_wayNow_32 : decode cX7_wayNow 32 = .ok (.iconst 4, 1) := by decide +kernel
theorem dX7_wayNow_33 : decode cX7_wayNow 33 = .ok (.if_icmp .ne 11, 3) := by decide +kernel
theorem dX7_wayNow_36 : decode cX7_wayNow 36 = .ok (.aload_n 0, 1) := by decide +kernel
theorem dX7_wayNow_37 : decode cX7_wayNow 37 = .ok (.iload_n 1, 1) := by decide +kernel
theorem dX7_wayNow_38 : decode cX7_wayNow 38 = .ok (.invokevirtual 134, 3) := by decide +kernel
theorem dX7_wayNow_41 : decode cX7_wayNow 41 = .ok (.goto 9, 3) := by decide +kernel
theorem dX7_wayNow_44 : decode cX7_wayNow 44 = .ok (.aload_n 0, 1) := by decide +kernel
theorem dX7_wayNow_45 : decode cX7_wayNow 45 = .ok (.getfield 52, 3) := by decide +kernel
theorem dX7_wayNow_48 : decode cX7_wayNow 48 = .ok (.iload_n 1, 1) := by decide +kernel
theorem dX7_wayNow_49 : decode cX7_wayNow 49 = .ok (.iaload, 1) := by decide +kernel
theorem dX7_wayNow_50 : decode cX7_wayNow 50 = .ok (.ireturn, 1) := by decide +kernel
theorem pd_X7_wayNow : (parseMethodDescriptor yX7_wayNow.desc).map (fun d => d.parameters.length) = some 2 := by decide +kernel
def w_X7_wayNow (zz : Nat → Nat) (a0 : Nat) (a1 : Int) (a2 : Int) (h : AH) (Q : Int → AH → Prop) : Prop := jn (fun (t0_50 : Int) (h_50 : AH) => Q t0_50 h_50) (fun k_50 : Int → AH → Prop => ((¬ a2 = 0) → ((¬ a2 = (1 : Int)) → okA h a0 7 ∧ ∃ b27 : Nat, hfR h a0 10 = some b27 ∧ okI h b27 a1 ∧ ((¬ (haI h b27 a1) = (4 : Int)) → okA h a0 7 ∧ ∃ b45 : Nat, hfR h a0 18 = some b45 ∧ okI h b45 a1 ∧ k_50 (haI h b45 a1) h) ∧ (((haI h b27 a1) = (4 : Int)) → okA h a0 7 ∧ w_X7_goneAt zz a0 a1 h (fun (r38 : Int) (h38 : AH) => k_50 r38 h38))) ∧ ((a2 = (1 : Int)) → okA h a0 7 ∧ ∃ b18 : Nat, hfR h a0 15 = some b18 ∧ okI h b18 a1 ∧ k_50 (haI h b18 a1) h)) ∧ ((a2 = 0) → okA h a0 7 ∧ w_X7_steps zz a0 a1 h (fun (r6 : Int) (h6 : AH) => k_50 r6 h6)))
set_option maxRecDepth 100000 in
set_option maxHeartbeats 4000000 in
theorem met_X7_wayNow (G : GG) (l : Launch) : ∀ (As : List Value) (a0 : Nat) (a1 : Int) (a2 : Int) (h : AH) (Q : Int → AH → Prop), As.map ab = List.map some ([vR a0, vI a1, vI a2] : List AV) → w_X7_wayNow G.2.2 a0 a1 a2 h Q → Met l yX7_wayNow (.code yX7_wayNow cX7_wayNow 3 (some .int) :: xTb) ({ frames := 2, cells := 0, slots := 0, locals := 44 } : Room) (PcA G As h) (QG G (oI Q)) 0 0 (frA G) := by
  intro As a0 a1 a2 h Q hA hw
  refine met_of hA (by decide) (Nat.le_of_ble_eq_true rfl) (fun p e s m args below meth c C hml hr hnm => ?_)
  unfold w_X7_wayNow at hw
  refine aw_iload_n (pc := 0) C dX7_wayNow_0 rfl rfl ?_
  obtain ⟨k_50, hk_50, hw⟩ := jn_out hw
  have J_50 : ∀ (t0_50 : Int) (h_50 : AH), k_50 t0_50 h_50 → AW G p l e ({ frames := 2, cells := 0, slots := 0, locals := 44 } : Room) s m args below meth c 0 0 (MQ below (QG G (oI Q)) args s 0 0 (frA G)) 50 (eOf []) [vI t0_50] h_50 := by
    intro t0_50 h_50 hw
    rw [hk_50] at hw
    exact aw_iret (pc := 50) C hr dX7_wayNow_50 ⟨Nat.le_of_ble_eq_true rfl, Nat.le_of_ble_eq_true rfl⟩ ⟨_, rfl, hw⟩
  refine aw_if_ne (pc := 1) (tgt := 12) C dX7_wayNow_1 (by decide) (fun hc9 => ?_) (fun hc9 => ?_)
  · have hw := hw.1 hc9
    refine aw_iload_n (pc := 12) C dX7_wayNow_12 rfl rfl ?_
    refine aw_iconst (pc := 13) C dX7_wayNow_13 (i := (1 : Int)) (by decide) ?_
    refine aw_icmp_ne (pc := 14) (tgt := 26) C dX7_wayNow_14 (by decide) (fun hc9 => ?_) (fun hc9 => ?_)
    · have hw := hw.1 hc9
      refine aw_aload_n (pc := 26) C dX7_wayNow_26 rfl rfl ?_
      obtain ⟨hp9, b27, hb9, hw⟩ := hw
      refine aw_getR (pc := 27) C (ci := 7) (k := 10) ci7 (by decide) tw802 dX7_wayNow_27 rfl hp9 hb9 ?_
      refine aw_iload_n (pc := 30) C dX7_wayNow_30 rfl rfl ?_
      obtain ⟨⟨k9, hp9⟩, hw⟩ := hw
      refine aw_iald (pc := 31) C dX7_wayNow_31 hp9 ?_
      refine aw_iconst (pc := 32) C dX7_wayNow_32 (i := (4 : Int)) (by decide) ?_
      refine aw_icmp_ne (pc := 33) (tgt := 44) C dX7_wayNow_33 (by decide) (fun hc9 => ?_) (fun hc9 => ?_)
      · have hw := hw.1 hc9
        refine aw_aload_n (pc := 44) C dX7_wayNow_44 rfl rfl ?_
        obtain ⟨hp9, b45, hb9, hw⟩ := hw
        refine aw_getR (pc := 45) C (ci := 7) (k := 18) ci7 (by decide) tw810 dX7_wayNow_45 rfl hp9 hb9 ?_
        refine aw_iload_n (pc := 48) C dX7_wayNow_48 rfl rfl ?_
        obtain ⟨⟨k9, hp9⟩, hw⟩ := hw
        refine aw_iald (pc := 49) C dX7_wayNow_49 hp9 ?_
        refine aw_sub [] trivial ?_
        exact J_50 _ _ hw
      · have hw := hw.2 hc9
        refine aw_aload_n (pc := 36) C dX7_wayNow_36 rfl rfl ?_
        refine aw_iload_n (pc := 37) C dX7_wayNow_37 rfl rfl ?_
        obtain ⟨hp9, hw⟩ := hw
        refine aw_callV (pc := 38) (as := [vI a1]) C ci7 (fun As hA => met_X7_goneAt G l As a0 a1 _ _ hA hw) tw1029 tw1031 (tbp 61 (n := 21) (by decide +kernel)) tw10 tw1032 ⟨rfl, rfl⟩ ⟨rfl, by decide, by decide, pd_X7_goneAt⟩ ⟨Nat.le_of_ble_eq_true rfl, Nat.le_of_ble_eq_true rfl⟩ ⟨Nat.zero_le _, Nat.zero_le _⟩ (Nat.le_of_ble_eq_true rfl) dX7_wayNow_38 rfl hp9 (fun v9 h38 hq9 => ?_)
        obtain ⟨r38, rfl, hw⟩ := hq9
        refine aw_goto (pc := 41) (tgt := 50) C dX7_wayNow_41 (by decide) ?_
        refine aw_sub [] trivial ?_
        exact J_50 _ _ hw
    · have hw := hw.2 hc9
      refine aw_aload_n (pc := 17) C dX7_wayNow_17 rfl rfl ?_
      obtain ⟨hp9, b18, hb9, hw⟩ := hw
      refine aw_getR (pc := 18) C (ci := 7) (k := 15) ci7 (by decide) tw807 dX7_wayNow_18 rfl hp9 hb9 ?_
      refine aw_iload_n (pc := 21) C dX7_wayNow_21 rfl rfl ?_
      obtain ⟨⟨k9, hp9⟩, hw⟩ := hw
      refine aw_iald (pc := 22) C dX7_wayNow_22 hp9 ?_
      refine aw_goto (pc := 23) (tgt := 50) C dX7_wayNow_23 (by decide) ?_
      refine aw_sub [] trivial ?_
      exact J_50 _ _ hw
  · have hw := hw.2 hc9
    refine aw_aload_n (pc := 4) C dX7_wayNow_4 rfl rfl ?_
    refine aw_iload_n (pc := 5) C dX7_wayNow_5 rfl rfl ?_
    obtain ⟨hp9, hw⟩ := hw
    refine aw_callV (pc := 6) (as := [vI a1]) C ci7 (fun As hA => met_X7_steps G l As a0 a1 _ _ hA hw) tw1025 tw1027 (tbp 60 (n := 21) (by decide +kernel)) tw10 tw1028 ⟨rfl, rfl⟩ ⟨rfl, by decide, by decide, pd_X7_steps⟩ ⟨Nat.le_of_ble_eq_true rfl, Nat.le_of_ble_eq_true rfl⟩ ⟨Nat.zero_le _, Nat.zero_le _⟩ (Nat.le_of_ble_eq_true rfl) dX7_wayNow_6 rfl hp9 (fun v9 h6 hq9 => ?_)
    obtain ⟨r6, rfl, hw⟩ := hq9
    refine aw_goto (pc := 9) (tgt := 50) C dX7_wayNow_9 (by decide) ?_
    refine aw_sub [] trivial ?_
    exact J_50 _ _ hw
theorem dX7_way_0 : decode cX7_way 0 = .ok (.aload_n 0, 1) := by decide +kernel
theorem dX7_way_1 : decode cX7_way 1 = .ok (.invokevirtual 170, 3) := by decide +kernel
theorem dX7_way_4 : decode cX7_way 4 = .ok (.aload_n 0, 1) := by decide +kernel
theorem dX7_way_5 : decode cX7_way 5 = .ok (.iload_n 1, 1) := by decide +kernel
theorem dX7_way_6 : decode cX7_way 6 = .ok (.iconst 0, 1) := by decide +kernel
theorem dX7_way_7 : decode cX7_way 7 = .ok (.aload_n 0, 1) := by decide +kernel
theorem dX7_way_8 : decode cX7_way 8 = .ok (.getfield 19, 3) := by decide +kernel
theorem dX7_way_11 : decode cX7_way 11 = .ok (.iconst 0, 1) := by decide +kernel
theorem dX7_way_12 : decode cX7_way 12 = .ok (.iaload, 1) := by decide +kernel
theorem dX7_way_13 : decode cX7_way 13 = .ok (.iconst 1, 1) := by decide +kernel
theorem dX7_way_14 : decode cX7_way 14 = .ok (.isub, 1) := by decide +kernel
theorem dX7_way_15 : decode cX7_way 15 = .ok (.invokestatic 65, 3) := by decide +kernel
theorem dX7_way_18 : decode cX7_way 18 = .ok (.ifCond .ne 7, 3) := by decide +kernel
theorem dX7_way_21 : decode cX7_way 21 = .ok (.iconst 1, 1) := by decide +kernel
theorem dX7_way_22 : decode cX7_way 22 = .ok (.goto 17, 3) := by decide +kernel
theorem dX7_way_25 : decode cX7_way 25 = .ok (.iload_n 2, 1) := by decide +kernel
theorem dX7_way_26 : decode cX7_way 26 = .ok (.iconst 0, 1) := by decide +kernel
theorem dX7_way_27 : decode cX7_way 27 = .ok (.iconst 2, 1) := by decide +kernel
theorem dX7_way_28 : decode cX7_way 28 = .ok (.invokestatic 65, 3) := by decide +kernel
theorem dX7_way_31 : decode cX7_way 31 = .ok (.ifCond .eq 7, 3) := by decide +kernel
theorem dX7_way_34 : decode cX7_way 34 = .ok (.iconst 0, 1) := by decide +kernel
theorem dX7_way_35 : decode cX7_way 35 = .ok (.goto 4, 3) := by decide +kernel
theorem dX7_way_38 : decode cX7_way 38 = .ok (.iconst 2, 1) := by decide +kernel
theorem dX7_way_39 : decode cX7_way 39 = .ok (.putfield 61, 3) := by decide +kernel
theorem dX7_way_42 : decode cX7_way 42 = .ok (.aload_n 0, 1) := by decide +kernel
theorem dX7_way_43 : decode cX7_way 43 = .ok (.getfield 61, 3) := by decide +kernel
theorem dX7_way_46 : decode cX7_way 46 = .ok (.ifCond .le 7, 3) := by decide +kernel
theorem dX7_way_49 : decode cX7_way 49 = .ok (.iconst 0, 1) := by decide +kernel
theorem dX7_way_50 : decode cX7_way 50 = .ok (.goto 9, 3) := by decide +kernel
theorem dX7_way_53 : decode cX7_way 53 = .ok (.aload_n 0, 1) := by decide +kernel
theorem dX7_way_54 : decode cX7_way 54 = .ok (.iload_n 1, 1) := by decide +kernel
theorem dX7_way_55 : decode cX7_way 55 = .ok (.iload_n 2, 1) := by decide +kernel
theorem dX7_way_56 : decode cX7_way 56 = .ok (.invokevirtual 189, 3) := by decide +kernel
theorem dX7_way_59 : decode cX7_way 59 = .ok (.ireturn, 1) := by decide +kernel
theorem pd_X7_way : (parseMethodDescriptor yX7_way.desc).map (fun d => d.parameters.length) = some 2 := by decide +kernel
def w_X7_way (zz : Nat → Nat) (a0 : Nat) (a1 : Int) (a2 : Int) (h : AH) (Q : Int → AH → Prop) : Prop := okA h a0 7 ∧ w_X7_lay zz a0 h (fun  (h1 : AH) => okA h1 a0 7 ∧ ∃ b8 : Nat, hfR h1 a0 6 = some b8 ∧ okI h1 b8 (0 : Int) ∧ inR ((haI h1 b8 (0 : Int)) - (1 : Int)) ∧ w_X7_within zz a1 (0 : Int) ((haI h1 b8 (0 : Int)) - (1 : Int)) h1 (fun (r15 : Int) (h15 : AH) => jn (fun (t1_39 : Int) (h_39 : AH) => okP h_39 a0 7 ∧ ∀ h39 : AH, h39 = sfI h_39 a0 0 t1_39 → okA h39 a0 7 ∧ jn (fun (t0_59 : Int) (h_59 : AH) => Q t0_59 h_59) (fun k_59 : Int → AH → Prop => (((hfI h39 a0 0) ≤ 0) → okA h39 a0 7 ∧ w_X7_wayNow zz a0 a1 a2 h39 (fun (r56 : Int) (h56 : AH) => k_59 r56 h56)) ∧ ((¬ ((hfI h39 a0 0) ≤ 0)) → k_59 (0 : Int) h39))) (fun k_39 : Int → AH → Prop => ((¬ r15 = 0) → w_X7_within zz a2 (0 : Int) (2 : Int) h15 (fun (r28 : Int) (h28 : AH) => ((r28 = 0) → k_39 (2 : Int) h28) ∧ ((¬ (r28 = 0)) → k_39 (0 : Int) h28))) ∧ ((r15 = 0) → k_39 (1 : Int) h15))))
set_option maxRecDepth 100000 in
set_option maxHeartbeats 4000000 in
theorem met_X7_way (G : GG) (l : Launch) : ∀ (As : List Value) (a0 : Nat) (a1 : Int) (a2 : Int) (h : AH) (Q : Int → AH → Prop), As.map ab = List.map some ([vR a0, vI a1, vI a2] : List AV) → w_X7_way G.2.2 a0 a1 a2 h Q → Met l yX7_way (.code yX7_way cX7_way 3 (some .int) :: xTb) ({ frames := 5, cells := 0, slots := 0, locals := 117 } : Room) (PcA G As h) (QG G (oI Q)) 0 0 (frA G) := by
  intro As a0 a1 a2 h Q hA hw
  refine met_of hA (by decide) (Nat.le_of_ble_eq_true rfl) (fun p e s m args below meth c C hml hr hnm => ?_)
  unfold w_X7_way at hw
  refine aw_aload_n (pc := 0) C dX7_way_0 rfl rfl ?_
  obtain ⟨hp9, hw⟩ := hw
  refine aw_callV (pc := 1) (as := []) C ci7 (fun As hA => met_X7_lay G l As a0 _ _ hA hw) tw910 tw912 (tbp 38 (n := 21) (by decide +kernel)) tw10 tw913 ⟨rfl, rfl⟩ ⟨rfl, by decide, by decide, pd_X7_lay⟩ ⟨Nat.le_of_ble_eq_true rfl, Nat.le_of_ble_eq_true rfl⟩ ⟨Nat.zero_le _, Nat.zero_le _⟩ (Nat.le_of_ble_eq_true rfl) dX7_way_1 rfl hp9 (fun v9 h1 hq9 => ?_)
  obtain ⟨rfl, hw⟩ := hq9
  refine aw_aload_n (pc := 4) C dX7_way_4 rfl rfl ?_
  refine aw_iload_n (pc := 5) C dX7_way_5 rfl rfl ?_
  refine aw_iconst (pc := 6) C dX7_way_6 (i := (0 : Int)) (by decide) ?_
  refine aw_aload_n (pc := 7) C dX7_way_7 rfl rfl ?_
  obtain ⟨hp9, b8, hb9, hw⟩ := hw
  refine aw_getR (pc := 8) C (ci := 7) (k := 6) ci7 (by decide) tw798 dX7_way_8 rfl hp9 hb9 ?_
  refine aw_iconst (pc := 11) C dX7_way_11 (i := (0 : Int)) (by decide) ?_
  obtain ⟨⟨k9, hp9⟩, hw⟩ := hw
  refine aw_iald (pc := 12) C dX7_way_12 hp9 ?_
  refine aw_iconst (pc := 13) C dX7_way_13 (i := (1 : Int)) (by decide) ?_
  obtain ⟨hp9, hw⟩ := hw
  refine aw_isub (pc := 14) C dX7_way_14 hp9 ?_
  refine aw_callS (pc := 15) (as := [vI a1, vI (0 : Int), vI ((haI h1 b8 (0 : Int)) - (1 : Int))]) C (fun As hA => met_X7_within G l As a1 (0 : Int) ((haI h1 b8 (0 : Int)) - (1 : Int)) _ _ hA hw) tw883 tw884 tw10 tw885 ⟨rfl, rfl⟩ ⟨by decide, by decide, pd_X7_within⟩ ⟨Nat.le_of_ble_eq_true rfl, Nat.le_of_ble_eq_true rfl⟩ ⟨Nat.zero_le _, Nat.zero_le _⟩ (Nat.le_of_ble_eq_true rfl) dX7_way_15 rfl (fun v9 h15 hq9 => ?_)
  obtain ⟨r15, rfl, hw⟩ := hq9
  obtain ⟨k_39, hk_39, hw⟩ := jn_out hw
  have J_39 : ∀ (t1_39 : Int) (h_39 : AH), k_39 t1_39 h_39 → AW G p l e ({ frames := 5, cells := 0, slots := 0, locals := 117 } : Room) s m args below meth c 0 0 (MQ below (QG G (oI Q)) args s 0 0 (frA G)) 39 (eOf [(0, vR a0), (1, vI a1), (2, vI a2)]) [vI t1_39, vR a0] h_39 := by
    intro t1_39 h_39 hw
    rw [hk_39] at hw
    obtain ⟨hp9, hw⟩ := hw
    refine aw_putI (pc := 39) C (ci := 7) (k := 0) ci7 (by decide) tw792 (Or.inl rfl) dX7_way_39 rfl hp9 (aw_nmH (fun h39 e9 => ?_))
    have hw := hw h39 e9
    refine aw_aload_n (pc := 42) C dX7_way_42 rfl rfl ?_
    obtain ⟨hp9, hw⟩ := hw
    refine aw_getI (pc := 43) C (ci := 7) (k := 0) ci7 (by decide) tw792 dX7_way_43 rfl hp9 ?_
    obtain ⟨k_59, hk_59, hw⟩ := jn_out hw
    have J_59 : ∀ (t0_59 : Int) (h_59 : AH), k_59 t0_59 h_59 → AW G p l e ({ frames := 5, cells := 0, slots := 0, locals := 117 } : Room) s m args below meth c 0 0 (MQ below (QG G (oI Q)) args s 0 0 (frA G)) 59 (eOf []) [vI t0_59] h_59 := by
      intro t0_59 h_59 hw
      rw [hk_59] at hw
      exact aw_iret (pc := 59) C hr dX7_way_59 ⟨Nat.le_of_ble_eq_true rfl, Nat.le_of_ble_eq_true rfl⟩ ⟨_, rfl, hw⟩
    refine aw_if_le (pc := 46) (tgt := 53) C dX7_way_46 (by decide) (fun hc9 => ?_) (fun hc9 => ?_)
    · have hw := hw.1 hc9
      refine aw_aload_n (pc := 53) C dX7_way_53 rfl rfl ?_
      refine aw_iload_n (pc := 54) C dX7_way_54 rfl rfl ?_
      refine aw_iload_n (pc := 55) C dX7_way_55 rfl rfl ?_
      obtain ⟨hp9, hw⟩ := hw
      refine aw_callV (pc := 56) (as := [vI a1, vI a2]) C ci7 (fun As hA => met_X7_wayNow G l As a0 a1 a2 _ _ hA hw) tw1021 tw1023 (tbp 59 (n := 21) (by decide +kernel)) tw10 tw1024 ⟨rfl, rfl⟩ ⟨rfl, by decide, by decide, pd_X7_wayNow⟩ ⟨Nat.le_of_ble_eq_true rfl, Nat.le_of_ble_eq_true rfl⟩ ⟨Nat.zero_le _, Nat.zero_le _⟩ (Nat.le_of_ble_eq_true rfl) dX7_way_56 rfl hp9 (fun v9 h56 hq9 => ?_)
      obtain ⟨r56, rfl, hw⟩ := hq9
      refine aw_sub [] trivial ?_
      exact J_59 _ _ hw
    · have hw := hw.2 hc9
      refine aw_iconst (pc := 49) C dX7_way_49 (i := (0 : Int)) (by decide) ?_
      refine aw_goto (pc := 50) (tgt := 59) C dX7_way_50 (by decide) ?_
      refine aw_sub [] trivial ?_
      exact J_59 _ _ hw
  refine aw_if_ne (pc := 18) (tgt := 25) C dX7_way_18 (by decide) (fun hc9 => ?_) (fun hc9 => ?_)
  · have hw := hw.1 hc9
    refine aw_iload_n (pc := 25) C dX7_way_25 rfl rfl ?_
    refine aw_iconst (pc := 26) C dX7_way_26 (i := (0 : Int)) (by decide) ?_
    refine aw_iconst (pc := 27) C dX7_way_27 (i := (2 : Int)) (by decide) ?_
    refine aw_callS (pc := 28) (as := [vI a2, vI (0 : Int), vI (2 : Int)]) C (fun As hA => met_X7_within G l As a2 (0 : Int) (2 : Int) _ _ hA hw) tw883 tw884 tw10 tw885 ⟨rfl, rfl⟩ ⟨by decide, by decide, pd_X7_within⟩ ⟨Nat.le_of_ble_eq_true rfl, Nat.le_of_ble_eq_true rfl⟩ ⟨Nat.zero_le _, Nat.zero_le _⟩ (Nat.le_of_ble_eq_true rfl) dX7_way_28 rfl (fun v9 h28 hq9 => ?_)
    obtain ⟨r28, rfl, hw⟩ := hq9
    refine aw_if_eq (pc := 31) (tgt := 38) C dX7_way_31 (by decide) (fun hc9 => ?_) (fun hc9 => ?_)
    · have hw := hw.1 hc9
      refine aw_iconst (pc := 38) C dX7_way_38 (i := (2 : Int)) (by decide) ?_
      refine aw_sub [(0, vR a0), (1, vI a1), (2, vI a2)] ⟨rfl, rfl, rfl, trivial⟩ ?_
      exact J_39 _ _ hw
    · have hw := hw.2 hc9
      refine aw_iconst (pc := 34) C dX7_way_34 (i := (0 : Int)) (by decide) ?_
      refine aw_goto (pc := 35) (tgt := 39) C dX7_way_35 (by decide) ?_
      refine aw_sub [(0, vR a0), (1, vI a1), (2, vI a2)] ⟨rfl, rfl, rfl, trivial⟩ ?_
      exact J_39 _ _ hw
  · have hw := hw.2 hc9
    refine aw_iconst (pc := 21) C dX7_way_21 (i := (1 : Int)) (by decide) ?_
    refine aw_goto (pc := 22) (tgt := 39) C dX7_way_22 (by decide) ?_
    refine aw_sub [(0, vR a0), (1, vI a1), (2, vI a2)] ⟨rfl, rfl, rfl, trivial⟩ ?_
    exact J_39 _ _ hw
theorem dX7_isFrame_0 : decode cX7_isFrame 0 = .ok (.iload_n 1, 1) := by decide +kernel
theorem dX7_isFrame_1 : decode cX7_isFrame 1 = .ok (.iconst 0, 1) := by decide +kernel
theorem dX7_isFrame_2 : decode cX7_isFrame 2 = .ok (.aload_n 0, 1) := by decide +kernel
theorem dX7_isFrame_3 : decode cX7_isFrame 3 = .ok (.invokevirtual 173, 3) := by decide +kernel
theorem dX7_isFrame_6 : decode cX7_isFrame 6 = .ok (.iconst 1, 1) := by decide +kernel
theorem dX7_isFrame_7 : decode cX7_isFrame 7 = .ok (.isub, 1) := by decide +kernel
theorem dX7_isFrame_8 : decode cX7_isFrame 8 = .ok (.invokestatic 65, 3) := by decide +kernel
theorem dX7_isFrame_11 : decode cX7_isFrame 11 = .ok (.ireturn, 1) := by decide +kernel
theorem pd_X7_isFrame : (parseMethodDescriptor yX7_isFrame.desc).map (fun d => d.parameters.length) = some 1 := by decide +kernel
def w_X7_isFrame (zz : Nat → Nat) (a0 : Nat) (a1 : Int) (h : AH) (Q : Int → AH → Prop) : Prop := okA h a0 7 ∧ w_X7_frames zz a0 h (fun (r3 : Int) (h3 : AH) => inR (r3 - (1 : Int)) ∧ w_X7_within zz a1 (0 : Int) (r3 - (1 : Int)) h3 (fun (r8 : Int) (h8 : AH) => (r8 = 0 ∨ r8 = 1) ∧ Q r8 h8))
set_option maxRecDepth 100000 in
set_option maxHeartbeats 4000000 in
theorem met_X7_isFrame (G : GG) (l : Launch) : ∀ (As : List Value) (a0 : Nat) (a1 : Int) (h : AH) (Q : Int → AH → Prop), As.map ab = List.map some ([vR a0, vI a1] : List AV) → w_X7_isFrame G.2.2 a0 a1 h Q → Met l yX7_isFrame (.code yX7_isFrame cX7_isFrame 2 (some .boolean) :: xTb) ({ frames := 3, cells := 0, slots := 0, locals := 64 } : Room) (PcA G As h) (QG G (oI Q)) 0 0 (frA G) := by
  intro As a0 a1 h Q hA hw
  refine met_of hA (by decide) (Nat.le_of_ble_eq_true rfl) (fun p e s m args below meth c C hml hr hnm => ?_)
  unfold w_X7_isFrame at hw
  refine aw_iload_n (pc := 0) C dX7_isFrame_0 rfl rfl ?_
  refine aw_iconst (pc := 1) C dX7_isFrame_1 (i := (0 : Int)) (by decide) ?_
  refine aw_aload_n (pc := 2) C dX7_isFrame_2 rfl rfl ?_
  obtain ⟨hp9, hw⟩ := hw
  refine aw_callV (pc := 3) (as := []) C ci7 (fun As hA => met_X7_frames G l As a0 _ _ hA hw) tw985 tw987 (tbp 56 (n := 21) (by decide +kernel)) tw10 tw988 ⟨rfl, rfl⟩ ⟨rfl, by decide, by decide, pd_X7_frames⟩ ⟨Nat.le_of_ble_eq_true rfl, Nat.le_of_ble_eq_true rfl⟩ ⟨Nat.zero_le _, Nat.zero_le _⟩ (Nat.le_of_ble_eq_true rfl) dX7_isFrame_3 rfl hp9 (fun v9 h3 hq9 => ?_)
  obtain ⟨r3, rfl, hw⟩ := hq9
  refine aw_iconst (pc := 6) C dX7_isFrame_6 (i := (1 : Int)) (by decide) ?_
  obtain ⟨hp9, hw⟩ := hw
  refine aw_isub (pc := 7) C dX7_isFrame_7 hp9 ?_
  refine aw_callS (pc := 8) (as := [vI a1, vI (0 : Int), vI (r3 - (1 : Int))]) C (fun As hA => met_X7_within G l As a1 (0 : Int) (r3 - (1 : Int)) _ _ hA hw) tw883 tw884 tw10 tw885 ⟨rfl, rfl⟩ ⟨by decide, by decide, pd_X7_within⟩ ⟨Nat.le_of_ble_eq_true rfl, Nat.le_of_ble_eq_true rfl⟩ ⟨Nat.zero_le _, Nat.zero_le _⟩ (Nat.le_of_ble_eq_true rfl) dX7_isFrame_8 rfl (fun v9 h8 hq9 => ?_)
  obtain ⟨r8, rfl, hw⟩ := hq9
  obtain ⟨hp9, hw⟩ := hw
  exact aw_zret (pc := 11) C hr dX7_isFrame_11 ⟨Nat.le_of_ble_eq_true rfl, Nat.le_of_ble_eq_true rfl⟩ hp9 ⟨_, rfl, hw⟩
theorem dX7_at_0 : decode cX7_at 0 = .ok (.aload_n 0, 1) := by decide +kernel
theorem dX7_at_1 : decode cX7_at 1 = .ok (.invokevirtual 170, 3) := by decide +kernel
theorem dX7_at_4 : decode cX7_at 4 = .ok (.aload_n 0, 1) := by decide +kernel
theorem dX7_at_5 : decode cX7_at 5 = .ok (.aload_n 0, 1) := by decide +kernel
theorem dX7_at_6 : decode cX7_at 6 = .ok (.iload_n 1, 1) := by decide +kernel
theorem dX7_at_7 : decode cX7_at 7 = .ok (.invokevirtual 192, 3) := by decide +kernel
theorem dX7_at_10 : decode cX7_at 10 = .ok (.ifCond .eq 15, 3) := by decide +kernel
theorem dX7_at_13 : decode cX7_at 13 = .ok (.iload_n 2, 1) := by decide +kernel
theorem dX7_at_14 : decode cX7_at 14 = .ok (.iload_n 3, 1) := by decide +kernel
theorem dX7_at_15 : decode cX7_at 15 = .ok (.invokestatic 164, 3) := by decide +kernel
theorem dX7_at_18 : decode cX7_at 18 = .ok (.ifCond .eq 7, 3) := by decide +kernel
theorem dX7_at_21 : decode cX7_at 21 = .ok (.iconst 0, 1) := by decide +kernel
theorem dX7_at_22 : decode cX7_at 22 = .ok (.goto 4, 3) := by decide +kernel
theorem dX7_at_25 : decode cX7_at 25 = .ok (.iconst 1, 1) := by decide +kernel
theorem dX7_at_26 : decode cX7_at 26 = .ok (.putfield 61, 3) := by decide +kernel
theorem dX7_at_29 : decode cX7_at 29 = .ok (.aload_n 0, 1) := by decide +kernel
theorem dX7_at_30 : decode cX7_at 30 = .ok (.getfield 61, 3) := by decide +kernel
theorem dX7_at_33 : decode cX7_at 33 = .ok (.ifCond .le 7, 3) := by decide +kernel
theorem dX7_at_36 : decode cX7_at 36 = .ok (.iconst 0, 1) := by decide +kernel
theorem dX7_at_37 : decode cX7_at 37 = .ok (.goto 14, 3) := by decide +kernel
theorem dX7_at_40 : decode cX7_at 40 = .ok (.aload_n 0, 1) := by decide +kernel
theorem dX7_at_41 : decode cX7_at 41 = .ok (.iload_n 1, 1) := by decide +kernel
theorem dX7_at_42 : decode cX7_at 42 = .ok (.bipush 16, 2) := by decide +kernel
theorem dX7_at_44 : decode cX7_at 44 = .ok (.iload_n 2, 1) := by decide +kernel
theorem dX7_at_45 : decode cX7_at 45 = .ok (.imul, 1) := by decide +kernel
theorem dX7_at_46 : decode cX7_at 46 = .ok (.iload_n 3, 1) := by decide +kernel
theorem dX7_at_47 : decode cX7_at 47 = .ok (.iadd, 1) := by decide +kernel
theorem dX7_at_48 : decode cX7_at 48 = .ok (.invokevirtual 195, 3) := by decide +kernel
theorem dX7_at_51 : decode cX7_at 51 = .ok (.ireturn, 1) := by decide +kernel
theorem pd_X7_at : (parseMethodDescriptor yX7_at.desc).map (fun d => d.parameters.length) = some 3 := by decide +kernel
def w_X7_at (zz : Nat → Nat) (a0 : Nat) (a1 : Int) (a2 : Int) (a3 : Int) (h : AH) (Q : Int → AH → Prop) : Prop := okA h a0 7 ∧ w_X7_lay zz a0 h (fun  (h1 : AH) => okA h1 a0 7 ∧ w_X7_isFrame zz a0 a1 h1 (fun (r7 : Int) (h7 : AH) => jn (fun (t1_26 : Int) (h_26 : AH) => okP h_26 a0 7 ∧ ∀ h26 : AH, h26 = sfI h_26 a0 0 t1_26 → okA h26 a0 7 ∧ jn (fun (t0_51 : Int) (h_51 : AH) => Q t0_51 h_51) (fun k_51 : Int → AH → Prop => (((hfI h26 a0 0) ≤ 0) → inR ((16 : Int) * a2) ∧ inR (((16 : Int) * a2) + a3) ∧ okA h26 a0 7 ∧ w_X7_shown zz a0 a1 (((16 : Int) * a2) + a3) h26 (fun (r48 : Int) (h48 : AH) => k_51 r48 h48)) ∧ ((¬ ((hfI h26 a0 0) ≤ 0)) → k_51 (0 : Int) h26))) (fun k_26 : Int → AH → Prop => jn (fun  (h_25 : AH) => k_26 (1 : Int) h_25) (fun k_25 : AH → Prop => ((r7 = 0) → k_25  h7) ∧ ((¬ (r7 = 0)) → w_X7_isCell zz a2 a3 h7 (fun (r15 : Int) (h15 : AH) => ((r15 = 0) → k_25  h15) ∧ ((¬ (r15 = 0)) → k_26 (0 : Int) h15)))))))
set_option maxRecDepth 100000 in
set_option maxHeartbeats 4000000 in
theorem met_X7_at (G : GG) (l : Launch) : ∀ (As : List Value) (a0 : Nat) (a1 : Int) (a2 : Int) (a3 : Int) (h : AH) (Q : Int → AH → Prop), As.map ab = List.map some ([vR a0, vI a1, vI a2, vI a3] : List AV) → w_X7_at G.2.2 a0 a1 a2 a3 h Q → Met l yX7_at (.code yX7_at cX7_at 4 (some .int) :: xTb) ({ frames := 5, cells := 0, slots := 0, locals := 117 } : Room) (PcA G As h) (QG G (oI Q)) 0 0 (frA G) := by
  intro As a0 a1 a2 a3 h Q hA hw
  refine met_of hA (by decide) (Nat.le_of_ble_eq_true rfl) (fun p e s m args below meth c C hml hr hnm => ?_)
  unfold w_X7_at at hw
  refine aw_aload_n (pc := 0) C dX7_at_0 rfl rfl ?_
  obtain ⟨hp9, hw⟩ := hw
  refine aw_callV (pc := 1) (as := []) C ci7 (fun As hA => met_X7_lay G l As a0 _ _ hA hw) tw910 tw912 (tbp 38 (n := 21) (by decide +kernel)) tw10 tw913 ⟨rfl, rfl⟩ ⟨rfl, by decide, by decide, pd_X7_lay⟩ ⟨Nat.le_of_ble_eq_true rfl, Nat.le_of_ble_eq_true rfl⟩ ⟨Nat.zero_le _, Nat.zero_le _⟩ (Nat.le_of_ble_eq_true rfl) dX7_at_1 rfl hp9 (fun v9 h1 hq9 => ?_)
  obtain ⟨rfl, hw⟩ := hq9
  refine aw_aload_n (pc := 4) C dX7_at_4 rfl rfl ?_
  refine aw_aload_n (pc := 5) C dX7_at_5 rfl rfl ?_
  refine aw_iload_n (pc := 6) C dX7_at_6 rfl rfl ?_
  obtain ⟨hp9, hw⟩ := hw
  refine aw_callV (pc := 7) (as := [vI a1]) C ci7 (fun As hA => met_X7_isFrame G l As a0 a1 _ _ hA hw) tw1037 tw1039 (tbp 62 (n := 21) (by decide +kernel)) tw10 tw1040 ⟨rfl, rfl⟩ ⟨rfl, by decide, by decide, pd_X7_isFrame⟩ ⟨Nat.le_of_ble_eq_true rfl, Nat.le_of_ble_eq_true rfl⟩ ⟨Nat.zero_le _, Nat.zero_le _⟩ (Nat.le_of_ble_eq_true rfl) dX7_at_7 rfl hp9 (fun v9 h7 hq9 => ?_)
  obtain ⟨r7, rfl, hw⟩ := hq9
  obtain ⟨k_26, hk_26, hw⟩ := jn_out hw
  have J_26 : ∀ (t1_26 : Int) (h_26 : AH), k_26 t1_26 h_26 → AW G p l e ({ frames := 5, cells := 0, slots := 0, locals := 117 } : Room) s m args below meth c 0 0 (MQ below (QG G (oI Q)) args s 0 0 (frA G)) 26 (eOf [(0, vR a0), (1, vI a1), (2, vI a2), (3, vI a3)]) [vI t1_26, vR a0] h_26 := by
    intro t1_26 h_26 hw
    rw [hk_26] at hw
    obtain ⟨hp9, hw⟩ := hw
    refine aw_putI (pc := 26) C (ci := 7) (k := 0) ci7 (by decide) tw792 (Or.inl rfl) dX7_at_26 rfl hp9 (aw_nmH (fun h26 e9 => ?_))
    have hw := hw h26 e9
    refine aw_aload_n (pc := 29) C dX7_at_29 rfl rfl ?_
    obtain ⟨hp9, hw⟩ := hw
    refine aw_getI (pc := 30) C (ci := 7) (k := 0) ci7 (by decide) tw792 dX7_at_30 rfl hp9 ?_
    obtain ⟨k_51, hk_51, hw⟩ := jn_out hw
    have J_51 : ∀ (t0_51 : Int) (h_51 : AH), k_51 t0_51 h_51 → AW G p l e ({ frames := 5, cells := 0, slots := 0, locals := 117 } : Room) s m args below meth c 0 0 (MQ below (QG G (oI Q)) args s 0 0 (frA G)) 51 (eOf []) [vI t0_51] h_51 := by
      intro t0_51 h_51 hw
      rw [hk_51] at hw
      exact aw_iret (pc := 51) C hr dX7_at_51 ⟨Nat.le_of_ble_eq_true rfl, Nat.le_of_ble_eq_true rfl⟩ ⟨_, rfl, hw⟩
    refine aw_if_le (pc := 33) (tgt := 40) C dX7_at_33 (by decide) (fun hc9 => ?_) (fun hc9 => ?_)
    · have hw := hw.1 hc9
      refine aw_aload_n (pc := 40) C dX7_at_40 rfl rfl ?_
      refine aw_iload_n (pc := 41) C dX7_at_41 rfl rfl ?_
      refine aw_bipush (pc := 42) C dX7_at_42 (i := (16 : Int)) (by decide) ?_
      refine aw_iload_n (pc := 44) C dX7_at_44 rfl rfl ?_
      obtain ⟨hp9, hw⟩ := hw
      refine aw_imul (pc := 45) C dX7_at_45 hp9 ?_
      refine aw_iload_n (pc := 46) C dX7_at_46 rfl rfl ?_
      obtain ⟨hp9, hw⟩ := hw
      refine aw_iadd (pc := 47) C dX7_at_47 hp9 ?_
      obtain ⟨hp9, hw⟩ := hw
      refine aw_callV (pc := 48) (as := [vI a1, vI (((16 : Int) * a2) + a3)]) C ci7 (fun As hA => met_X7_shown G l As a0 a1 (((16 : Int) * a2) + a3) _ _ hA hw) tw1041 tw1043 (tbp 63 (n := 21) (by decide +kernel)) tw10 tw1044 ⟨rfl, rfl⟩ ⟨rfl, by decide, by decide, pd_X7_shown⟩ ⟨Nat.le_of_ble_eq_true rfl, Nat.le_of_ble_eq_true rfl⟩ ⟨Nat.zero_le _, Nat.zero_le _⟩ (Nat.le_of_ble_eq_true rfl) dX7_at_48 rfl hp9 (fun v9 h48 hq9 => ?_)
      obtain ⟨r48, rfl, hw⟩ := hq9
      refine aw_sub [] trivial ?_
      exact J_51 _ _ hw
    · have hw := hw.2 hc9
      refine aw_iconst (pc := 36) C dX7_at_36 (i := (0 : Int)) (by decide) ?_
      refine aw_goto (pc := 37) (tgt := 51) C dX7_at_37 (by decide) ?_
      refine aw_sub [] trivial ?_
      exact J_51 _ _ hw
  obtain ⟨k_25, hk_25, hw⟩ := jn_out hw
  have J_25 : ∀  (h_25 : AH), k_25  h_25 → AW G p l e ({ frames := 5, cells := 0, slots := 0, locals := 117 } : Room) s m args below meth c 0 0 (MQ below (QG G (oI Q)) args s 0 0 (frA G)) 25 (eOf [(0, vR a0), (1, vI a1), (2, vI a2), (3, vI a3)]) [vR a0] h_25 := by
    intro  h_25 hw
    rw [hk_25] at hw
    refine aw_iconst (pc := 25) C dX7_at_25 (i := (1 : Int)) (by decide) ?_
    refine aw_sub [(0, vR a0), (1, vI a1), (2, vI a2), (3, vI a3)] ⟨rfl, rfl, rfl, rfl, trivial⟩ ?_
    exact J_26 _ _ hw
  refine aw_if_eq (pc := 10) (tgt := 25) C dX7_at_10 (by decide) (fun hc9 => ?_) (fun hc9 => ?_)
  · have hw := hw.1 hc9
    refine aw_sub [(0, vR a0), (1, vI a1), (2, vI a2), (3, vI a3)] ⟨rfl, rfl, rfl, rfl, trivial⟩ ?_
    exact J_25  _ hw
  · have hw := hw.2 hc9
    refine aw_iload_n (pc := 13) C dX7_at_13 rfl rfl ?_
    refine aw_iload_n (pc := 14) C dX7_at_14 rfl rfl ?_
    refine aw_callS (pc := 15) (as := [vI a2, vI a3]) C (fun As hA => met_X7_isCell G l As a2 a3 _ _ hA hw) tw900 tw901 tw10 tw902 ⟨rfl, rfl⟩ ⟨by decide, by decide, pd_X7_isCell⟩ ⟨Nat.le_of_ble_eq_true rfl, Nat.le_of_ble_eq_true rfl⟩ ⟨Nat.zero_le _, Nat.zero_le _⟩ (Nat.le_of_ble_eq_true rfl) dX7_at_15 rfl (fun v9 h15 hq9 => ?_)
    obtain ⟨r15, rfl, hw⟩ := hq9
    refine aw_if_eq (pc := 18) (tgt := 25) C dX7_at_18 (by decide) (fun hc9 => ?_) (fun hc9 => ?_)
    · have hw := hw.1 hc9
      refine aw_sub [(0, vR a0), (1, vI a1), (2, vI a2), (3, vI a3)] ⟨rfl, rfl, rfl, rfl, trivial⟩ ?_
      exact J_25  _ hw
    · have hw := hw.2 hc9
      refine aw_iconst (pc := 21) C dX7_at_21 (i := (0 : Int)) (by decide) ?_
      refine aw_goto (pc := 22) (tgt := 26) C dX7_at_22 (by decide) ?_
      refine aw_sub [(0, vR a0), (1, vI a1), (2, vI a2), (3, vI a3)] ⟨rfl, rfl, rfl, rfl, trivial⟩ ?_
      exact J_26 _ _ hw
theorem dX7_place_0 : decode cX7_place 0 = .ok (.aload_n 0, 1) := by decide +kernel
theorem dX7_place_1 : decode cX7_place 1 = .ok (.invokevirtual 170, 3) := by decide +kernel
theorem dX7_place_4 : decode cX7_place 4 = .ok (.aload_n 0, 1) := by decide +kernel
theorem dX7_place_5 : decode cX7_place 5 = .ok (.aload_n 0, 1) := by decide +kernel
theorem dX7_place_6 : decode cX7_place 6 = .ok (.iload_n 1, 1) := by decide +kernel
theorem dX7_place_7 : decode cX7_place 7 = .ok (.invokevirtual 192, 3) := by decide +kernel
theorem dX7_place_10 : decode cX7_place 10 = .ok (.ifCond .eq 23, 3) := by decide +kernel
theorem dX7_place_13 : decode cX7_place 13 = .ok (.iload_n 2, 1) := by decide +kernel
theorem dX7_place_14 : decode cX7_place 14 = .ok (.iconst 0, 1) := by decide +kernel
theorem dX7_place_15 : decode cX7_place 15 = .ok (.aload_n 0, 1) := by decide +kernel
theorem dX7_place_16 : decode cX7_place 16 = .ok (.getfield 19, 3) := by decide +kernel
theorem dX7_place_19 : decode cX7_place 19 = .ok (.iconst 0, 1) := by decide +kernel
theorem dX7_place_20 : decode cX7_place 20 = .ok (.iaload, 1) := by decide +kernel
theorem dX7_place_21 : decode cX7_place 21 = .ok (.iconst 1, 1) := by decide +kernel
theorem dX7_place_22 : decode cX7_place 22 = .ok (.isub, 1) := by decide +kernel
theorem dX7_place_23 : decode cX7_place 23 = .ok (.invokestatic 65, 3) := by decide +kernel
theorem dX7_place_26 : decode cX7_place 26 = .ok (.ifCond .eq 7, 3) := by decide +kernel
theorem dX7_place_29 : decode cX7_place 29 = .ok (.iconst 0, 1) := by decide +kernel
theorem dX7_place_30 : decode cX7_place 30 = .ok (.goto 4, 3) := by decide +kernel
theorem dX7_place_33 : decode cX7_place 33 = .ok (.iconst 1, 1) := by decide +kernel
theorem dX7_place_34 : decode cX7_place 34 = .ok (.putfield 61, 3) := by decide +kernel
theorem dX7_place_37 : decode cX7_place 37 = .ok (.aload_n 0, 1) := by decide +kernel
theorem dX7_place_38 : decode cX7_place 38 = .ok (.getfield 61, 3) := by decide +kernel
theorem dX7_place_41 : decode cX7_place 41 = .ok (.ifCond .le 7, 3) := by decide +kernel
theorem dX7_place_44 : decode cX7_place 44 = .ok (.iconst 0, 1) := by decide +kernel
theorem dX7_place_45 : decode cX7_place 45 = .ok (.goto 9, 3) := by decide +kernel
theorem dX7_place_48 : decode cX7_place 48 = .ok (.aload_n 0, 1) := by decide +kernel
theorem dX7_place_49 : decode cX7_place 49 = .ok (.iload_n 1, 1) := by decide +kernel
theorem dX7_place_50 : decode cX7_place 50 = .ok (.iload_n 2, 1) := by decide +kernel
theorem dX7_place_51 : decode cX7_place 51 = .ok (.invokevirtual 137, 3) := by decide +kernel
theorem dX7_place_54 : decode cX7_place 54 = .ok (.ireturn, 1) := by decide +kernel
theorem pd_X7_place : (parseMethodDescriptor yX7_place.desc).map (fun d => d.parameters.length) = some 2 := by decide +kernel
def w_X7_place (zz : Nat → Nat) (a0 : Nat) (a1 : Int) (a2 : Int) (h : AH) (Q : Int → AH → Prop) : Prop := okA h a0 7 ∧ w_X7_lay zz a0 h (fun  (h1 : AH) => okA h1 a0 7 ∧ w_X7_isFrame zz a0 a1 h1 (fun (r7 : Int) (h7 : AH) => jn (fun (t1_34 : Int) (h_34 : AH) => okP h_34 a0 7 ∧ ∀ h34 : AH, h34 = sfI h_34 a0 0 t1_34 → okA h34 a0 7 ∧ jn (fun (t0_54 : Int) (h_54 : AH) => Q t0_54 h_54) (fun k_54 : Int → AH → Prop => (((hfI h34 a0 0) ≤ 0) → okA h34 a0 7 ∧ w_X7_placeIn zz a0 a1 a2 h34 (fun (r51 : Int) (h51 : AH) => k_54 r51 h51)) ∧ ((¬ ((hfI h34 a0 0) ≤ 0)) → k_54 (0 : Int) h34))) (fun k_34 : Int → AH → Prop => jn (fun  (h_33 : AH) => k_34 (1 : Int) h_33) (fun k_33 : AH → Prop => ((r7 = 0) → k_33  h7) ∧ ((¬ (r7 = 0)) → okA h7 a0 7 ∧ ∃ b16 : Nat, hfR h7 a0 6 = some b16 ∧ okI h7 b16 (0 : Int) ∧ inR ((haI h7 b16 (0 : Int)) - (1 : Int)) ∧ w_X7_within zz a2 (0 : Int) ((haI h7 b16 (0 : Int)) - (1 : Int)) h7 (fun (r23 : Int) (h23 : AH) => ((r23 = 0) → k_33  h23) ∧ ((¬ (r23 = 0)) → k_34 (0 : Int) h23)))))))
set_option maxRecDepth 100000 in
set_option maxHeartbeats 4000000 in
theorem met_X7_place (G : GG) (l : Launch) : ∀ (As : List Value) (a0 : Nat) (a1 : Int) (a2 : Int) (h : AH) (Q : Int → AH → Prop), As.map ab = List.map some ([vR a0, vI a1, vI a2] : List AV) → w_X7_place G.2.2 a0 a1 a2 h Q → Met l yX7_place (.code yX7_place cX7_place 3 (some .int) :: xTb) ({ frames := 5, cells := 0, slots := 0, locals := 117 } : Room) (PcA G As h) (QG G (oI Q)) 0 0 (frA G) := by
  intro As a0 a1 a2 h Q hA hw
  refine met_of hA (by decide) (Nat.le_of_ble_eq_true rfl) (fun p e s m args below meth c C hml hr hnm => ?_)
  unfold w_X7_place at hw
  refine aw_aload_n (pc := 0) C dX7_place_0 rfl rfl ?_
  obtain ⟨hp9, hw⟩ := hw
  refine aw_callV (pc := 1) (as := []) C ci7 (fun As hA => met_X7_lay G l As a0 _ _ hA hw) tw910 tw912 (tbp 38 (n := 21) (by decide +kernel)) tw10 tw913 ⟨rfl, rfl⟩ ⟨rfl, by decide, by decide, pd_X7_lay⟩ ⟨Nat.le_of_ble_eq_true rfl, Nat.le_of_ble_eq_true rfl⟩ ⟨Nat.zero_le _, Nat.zero_le _⟩ (Nat.le_of_ble_eq_true rfl) dX7_place_1 rfl hp9 (fun v9 h1 hq9 => ?_)
  obtain ⟨rfl, hw⟩ := hq9
  refine aw_aload_n (pc := 4) C dX7_place_4 rfl rfl ?_
  refine aw_aload_n (pc := 5) C dX7_place_5 rfl rfl ?_
  refine aw_iload_n (pc := 6) C dX7_place_6 rfl rfl ?_
  obtain ⟨hp9, hw⟩ := hw
  refine aw_callV (pc := 7) (as := [vI a1]) C ci7 (fun As hA => met_X7_isFrame G l As a0 a1 _ _ hA hw) tw1037 tw1039 (tbp 62 (n := 21) (by decide +kernel)) tw10 tw1040 ⟨rfl, rfl⟩ ⟨rfl, by decide, by decide, pd_X7_isFrame⟩ ⟨Nat.le_of_ble_eq_true rfl, Nat.le_of_ble_eq_true rfl⟩ ⟨Nat.zero_le _, Nat.zero_le _⟩ (Nat.le_of_ble_eq_true rfl) dX7_place_7 rfl hp9 (fun v9 h7 hq9 => ?_)
  obtain ⟨r7, rfl, hw⟩ := hq9
  obtain ⟨k_34, hk_34, hw⟩ := jn_out hw
  have J_34 : ∀ (t1_34 : Int) (h_34 : AH), k_34 t1_34 h_34 → AW G p l e ({ frames := 5, cells := 0, slots := 0, locals := 117 } : Room) s m args below meth c 0 0 (MQ below (QG G (oI Q)) args s 0 0 (frA G)) 34 (eOf [(0, vR a0), (1, vI a1), (2, vI a2)]) [vI t1_34, vR a0] h_34 := by
    intro t1_34 h_34 hw
    rw [hk_34] at hw
    obtain ⟨hp9, hw⟩ := hw
    refine aw_putI (pc := 34) C (ci := 7) (k := 0) ci7 (by decide) tw792 (Or.inl rfl) dX7_place_34 rfl hp9 (aw_nmH (fun h34 e9 => ?_))
    have hw := hw h34 e9
    refine aw_aload_n (pc := 37) C dX7_place_37 rfl rfl ?_
    obtain ⟨hp9, hw⟩ := hw
    refine aw_getI (pc := 38) C (ci := 7) (k := 0) ci7 (by decide) tw792 dX7_place_38 rfl hp9 ?_
    obtain ⟨k_54, hk_54, hw⟩ := jn_out hw
    have J_54 : ∀ (t0_54 : Int) (h_54 : AH), k_54 t0_54 h_54 → AW G p l e ({ frames := 5, cells := 0, slots := 0, locals := 117 } : Room) s m args below meth c 0 0 (MQ below (QG G (oI Q)) args s 0 0 (frA G)) 54 (eOf []) [vI t0_54] h_54 := by
      intro t0_54 h_54 hw
      rw [hk_54] at hw
      exact aw_iret (pc := 54) C hr dX7_place_54 ⟨Nat.le_of_ble_eq_true rfl, Nat.le_of_ble_eq_true rfl⟩ ⟨_, rfl, hw⟩
    refine aw_if_le (pc := 41) (tgt := 48) C dX7_place_41 (by decide) (fun hc9 => ?_) (fun hc9 => ?_)
    · have hw := hw.1 hc9
      refine aw_aload_n (pc := 48) C dX7_place_48 rfl rfl ?_
      refine aw_iload_n (pc := 49) C dX7_place_49 rfl rfl ?_
      refine aw_iload_n (pc := 50) C dX7_place_50 rfl rfl ?_
      obtain ⟨hp9, hw⟩ := hw
      refine aw_callV (pc := 51) (as := [vI a1, vI a2]) C ci7 (fun As hA => met_X7_placeIn G l As a0 a1 a2 _ _ hA hw) tw1045 tw1047 (tbp 64 (n := 21) (by decide +kernel)) tw10 tw1048 ⟨rfl, rfl⟩ ⟨rfl, by decide, by decide, pd_X7_placeIn⟩ ⟨Nat.le_of_ble_eq_true rfl, Nat.le_of_ble_eq_true rfl⟩ ⟨Nat.zero_le _, Nat.zero_le _⟩ (Nat.le_of_ble_eq_true rfl) dX7_place_51 rfl hp9 (fun v9 h51 hq9 => ?_)
      obtain ⟨r51, rfl, hw⟩ := hq9
      refine aw_sub [] trivial ?_
      exact J_54 _ _ hw
    · have hw := hw.2 hc9
      refine aw_iconst (pc := 44) C dX7_place_44 (i := (0 : Int)) (by decide) ?_
      refine aw_goto (pc := 45) (tgt := 54) C dX7_place_45 (by decide) ?_
      refine aw_sub [] trivial ?_
      exact J_54 _ _ hw
  obtain ⟨k_33, hk_33, hw⟩ := jn_out hw
  have J_33 : ∀  (h_33 : AH), k_33  h_33 → AW G p l e ({ frames := 5, cells := 0, slots := 0, locals := 117 } : Room) s m args below meth c 0 0 (MQ below (QG G (oI Q)) args s 0 0 (frA G)) 33 (eOf [(0, vR a0), (1, vI a1), (2, vI a2)]) [vR a0] h_33 := by
    intro  h_33 hw
    rw [hk_33] at hw
    refine aw_iconst (pc := 33) C dX7_place_33 (i := (1 : Int)) (by decide) ?_
    refine aw_sub [(0, vR a0), (1, vI a1), (2, vI a2)] ⟨rfl, rfl, rfl, trivial⟩ ?_
    exact J_34 _ _ hw
  refine aw_if_eq (pc := 10) (tgt := 33) C dX7_place_10 (by decide) (fun hc9 => ?_) (fun hc9 => ?_)
  · have hw := hw.1 hc9
    refine aw_sub [(0, vR a0), (1, vI a1), (2, vI a2)] ⟨rfl, rfl, rfl, trivial⟩ ?_
    exact J_33  _ hw
  · have hw := hw.2 hc9
    refine aw_iload_n (pc := 13) C dX7_place_13 rfl rfl ?_
    refine aw_iconst (pc := 14) C dX7_place_14 (i := (0 : Int)) (by decide) ?_
    refine aw_aload_n (pc := 15) C dX7_place_15 rfl rfl ?_
    obtain ⟨hp9, b16, hb9, hw⟩ := hw
    refine aw_getR (pc := 16) C (ci := 7) (k := 6) ci7 (by decide) tw798 dX7_place_16 rfl hp9 hb9 ?_
    refine aw_iconst (pc := 19) C dX7_place_19 (i := (0 : Int)) (by decide) ?_
    obtain ⟨⟨k9, hp9⟩, hw⟩ := hw
    refine aw_iald (pc := 20) C dX7_place_20 hp9 ?_
    refine aw_iconst (pc := 21) C dX7_place_21 (i := (1 : Int)) (by decide) ?_
    obtain ⟨hp9, hw⟩ := hw
    refine aw_isub (pc := 22) C dX7_place_22 hp9 ?_
    refine aw_callS (pc := 23) (as := [vI a2, vI (0 : Int), vI ((haI h7 b16 (0 : Int)) - (1 : Int))]) C (fun As hA => met_X7_within G l As a2 (0 : Int) ((haI h7 b16 (0 : Int)) - (1 : Int)) _ _ hA hw) tw883 tw884 tw10 tw885 ⟨rfl, rfl⟩ ⟨by decide, by decide, pd_X7_within⟩ ⟨Nat.le_of_ble_eq_true rfl, Nat.le_of_ble_eq_true rfl⟩ ⟨Nat.zero_le _, Nat.zero_le _⟩ (Nat.le_of_ble_eq_true rfl) dX7_place_23 rfl (fun v9 h23 hq9 => ?_)
    obtain ⟨r23, rfl, hw⟩ := hq9
    refine aw_if_eq (pc := 26) (tgt := 33) C dX7_place_26 (by decide) (fun hc9 => ?_) (fun hc9 => ?_)
    · have hw := hw.1 hc9
      refine aw_sub [(0, vR a0), (1, vI a1), (2, vI a2)] ⟨rfl, rfl, rfl, trivial⟩ ?_
      exact J_33  _ hw
    · have hw := hw.2 hc9
      refine aw_iconst (pc := 29) C dX7_place_29 (i := (0 : Int)) (by decide) ?_
      refine aw_goto (pc := 30) (tgt := 34) C dX7_place_30 (by decide) ?_
      refine aw_sub [(0, vR a0), (1, vI a1), (2, vI a2)] ⟨rfl, rfl, rfl, trivial⟩ ?_
      exact J_34 _ _ hw
theorem dX7_piecesIn_0 : decode cX7_piecesIn 0 = .ok (.iconst 0, 1) := by decide +kernel
theorem dX7_piecesIn_1 : decode cX7_piecesIn 1 = .ok (.istore_n 3, 1) := by decide +kernel
theorem dX7_piecesIn_2 : decode cX7_piecesIn 2 = .ok (.iconst 0, 1) := by decide +kernel
theorem dX7_piecesIn_3 : decode cX7_piecesIn 3 = .ok (.istore 4, 2) := by decide +kernel
theorem dX7_piecesIn_5 : decode cX7_piecesIn 5 = .ok (.iload 4, 2) := by decide +kernel
theorem dX7_piecesIn_7 : decode cX7_piecesIn 7 = .ok (.aload_n 0, 1) := by decide +kernel
theorem dX7_piecesIn_8 : decode cX7_piecesIn 8 = .ok (.getfield 19, 3) := by decide +kernel
theorem dX7_piecesIn_11 : decode cX7_piecesIn 11 = .ok (.iconst 0, 1) := by decide +kernel
theorem dX7_piecesIn_12 : decode cX7_piecesIn 12 = .ok (.iaload, 1) := by decide +kernel
theorem dX7_piecesIn_13 : decode cX7_piecesIn 13 = .ok (.if_icmp .ge 28, 3) := by decide +kernel
theorem dX7_piecesIn_16 : decode cX7_piecesIn 16 = .ok (.iload_n 3, 1) := by decide +kernel
theorem dX7_piecesIn_17 : decode cX7_piecesIn 17 = .ok (.aload_n 0, 1) := by decide +kernel
theorem dX7_piecesIn_18 : decode cX7_piecesIn 18 = .ok (.iload_n 1, 1) := by decide +kernel
theorem dX7_piecesIn_19 : decode cX7_piecesIn 19 = .ok (.iload 4, 2) := by decide +kernel
theorem dX7_piecesIn_21 : decode cX7_piecesIn 21 = .ok (.invokevirtual 137, 3) := by decide +kernel
theorem dX7_piecesIn_24 : decode cX7_piecesIn 24 = .ok (.iload_n 2, 1) := by decide +kernel
theorem dX7_piecesIn_25 : decode cX7_piecesIn 25 = .ok (.if_icmp .ne 7, 3) := by decide +kernel
theorem dX7_piecesIn_28 : decode cX7_piecesIn 28 = .ok (.iconst 1, 1) := by decide +kernel
theorem dX7_piecesIn_29 : decode cX7_piecesIn 29 = .ok (.goto 4, 3) := by decide +kernel
theorem dX7_piecesIn_32 : decode cX7_piecesIn 32 = .ok (.iconst 0, 1) := by decide +kernel
theorem dX7_piecesIn_33 : decode cX7_piecesIn 33 = .ok (.iadd, 1) := by decide +kernel
theorem dX7_piecesIn_34 : decode cX7_piecesIn 34 = .ok (.istore_n 3, 1) := by decide +kernel
theorem dX7_piecesIn_35 : decode cX7_piecesIn 35 = .ok (.iinc 4 1, 3) := by decide +kernel
theorem dX7_piecesIn_38 : decode cX7_piecesIn 38 = .ok (.goto (-33), 3) := by decide +kernel
theorem dX7_piecesIn_41 : decode cX7_piecesIn 41 = .ok (.iload_n 3, 1) := by decide +kernel
theorem dX7_piecesIn_42 : decode cX7_piecesIn 42 = .ok (.ireturn, 1) := by decide +kernel
theorem pd_X7_piecesIn : (parseMethodDescriptor yX7_piecesIn.desc).map (fun d => d.parameters.length) = some 2 := by decide +kernel
def w_X7_piecesIn (zz : Nat → Nat) (a0 : Nat) (a1 : Int) (a2 : Int) (h : AH) (Q : Int → AH → Prop) : Prop := ∃ I_5 : Nat → Int → Int → AH → Prop, (∃ n, I_5 n (0 : Int) (0 : Int) h) ∧ ∀ (n_5 : Nat) (x3_5 : Int) (x4_5 : Int) (h_5 : AH), I_5 n_5 x3_5 x4_5 h_5 → (okA h_5 a0 7 ∧ ∃ b8 : Nat, hfR h_5 a0 6 = some b8 ∧ okI h_5 b8 (0 : Int) ∧ (((haI h_5 b8 (0 : Int)) ≤ x4_5) → Q x3_5 h_5) ∧ ((¬ ((haI h_5 b8 (0 : Int)) ≤ x4_5)) → okA h_5 a0 7 ∧ w_X7_placeIn zz a0 a1 x4_5 h_5 (fun (r21 : Int) (h21 : AH) => jn (fun (t1_33 : Int) (h_33 : AH) => inR (x3_5 + t1_33) ∧ ∀ x3_34 : Int, x3_34 = (x3_5 + t1_33) → inR (x4_5 + 1) ∧ ∀ x4_35 : Int, x4_35 = (x4_5 + 1) → ∃ m, m < n_5 ∧ I_5 m x3_34 x4_35 h_33) (fun k_33 : Int → AH → Prop => ((¬ r21 = a2) → k_33 (0 : Int) h21) ∧ ((r21 = a2) → k_33 (1 : Int) h21)))))
set_option maxRecDepth 100000 in
set_option maxHeartbeats 4000000 in
theorem met_X7_piecesIn (G : GG) (l : Launch) : ∀ (As : List Value) (a0 : Nat) (a1 : Int) (a2 : Int) (h : AH) (Q : Int → AH → Prop), As.map ab = List.map some ([vR a0, vI a1, vI a2] : List AV) → w_X7_piecesIn G.2.2 a0 a1 a2 h Q → Met l yX7_piecesIn (.code yX7_piecesIn cX7_piecesIn 5 (some .int) :: xTb) ({ frames := 3, cells := 0, slots := 0, locals := 67 } : Room) (PcA G As h) (QG G (oI Q)) 0 0 (frA G) := by
  intro As a0 a1 a2 h Q hA hw
  refine met_of hA (by decide) (Nat.le_of_ble_eq_true rfl) (fun p e s m args below meth c C hml hr hnm => ?_)
  unfold w_X7_piecesIn at hw
  refine aw_iconst (pc := 0) C dX7_piecesIn_0 (i := (0 : Int)) (by decide) ?_
  refine aw_istore_n (pc := 1) C dX7_piecesIn_1 rfl (by rw [hml]; decide) ?_
  refine aw_iconst (pc := 2) C dX7_piecesIn_2 (i := (0 : Int)) (by decide) ?_
  refine aw_istore (pc := 3) C dX7_piecesIn_3 (by rw [hml]; decide) ?_
  obtain ⟨I_5, ⟨n9, hi9⟩, hst9⟩ := hw
  have L_5 : ∀ (n_5 : Nat) (x3_5 : Int) (x4_5 : Int) (h_5 : AH), I_5 n_5 x3_5 x4_5 h_5 → AW G p l e ({ frames := 3, cells := 0, slots := 0, locals := 67 } : Room) s m args below meth c 0 0 (MQ below (QG G (oI Q)) args s 0 0 (frA G)) 5 (eOf [(0, vR a0), (1, vI a1), (2, vI a2), (3, vI x3_5), (4, vI x4_5)]) [] h_5 := by
    intro n_5
    induction n_5 using Nat.strongRecOn with
    | _ n_5 ih_5 =>
    intro x3_5 x4_5 h_5 hi9
    have hw := hst9 n_5 x3_5 x4_5 h_5 hi9
    refine aw_iload (pc := 5) C dX7_piecesIn_5 rfl ?_
    refine aw_aload_n (pc := 7) C dX7_piecesIn_7 rfl rfl ?_
    obtain ⟨hp9, b8, hb9, hw⟩ := hw
    refine aw_getR (pc := 8) C (ci := 7) (k := 6) ci7 (by decide) tw798 dX7_piecesIn_8 rfl hp9 hb9 ?_
    refine aw_iconst (pc := 11) C dX7_piecesIn_11 (i := (0 : Int)) (by decide) ?_
    obtain ⟨⟨k9, hp9⟩, hw⟩ := hw
    refine aw_iald (pc := 12) C dX7_piecesIn_12 hp9 ?_
    refine aw_icmp_ge (pc := 13) (tgt := 41) C dX7_piecesIn_13 (by decide) (fun hc9 => ?_) (fun hc9 => ?_)
    · have hw := hw.1 hc9
      refine aw_iload_n (pc := 41) C dX7_piecesIn_41 rfl rfl ?_
      exact aw_iret (pc := 42) C hr dX7_piecesIn_42 ⟨Nat.le_of_ble_eq_true rfl, Nat.le_of_ble_eq_true rfl⟩ ⟨_, rfl, hw⟩
    · have hw := hw.2 hc9
      refine aw_iload_n (pc := 16) C dX7_piecesIn_16 rfl rfl ?_
      refine aw_aload_n (pc := 17) C dX7_piecesIn_17 rfl rfl ?_
      refine aw_iload_n (pc := 18) C dX7_piecesIn_18 rfl rfl ?_
      refine aw_iload (pc := 19) C dX7_piecesIn_19 rfl ?_
      obtain ⟨hp9, hw⟩ := hw
      refine aw_callV (pc := 21) (as := [vI a1, vI x4_5]) C ci7 (fun As hA => met_X7_placeIn G l As a0 a1 x4_5 _ _ hA hw) tw1045 tw1047 (tbp 64 (n := 21) (by decide +kernel)) tw10 tw1048 ⟨rfl, rfl⟩ ⟨rfl, by decide, by decide, pd_X7_placeIn⟩ ⟨Nat.le_of_ble_eq_true rfl, Nat.le_of_ble_eq_true rfl⟩ ⟨Nat.zero_le _, Nat.zero_le _⟩ (Nat.le_of_ble_eq_true rfl) dX7_piecesIn_21 rfl hp9 (fun v9 h21 hq9 => ?_)
      obtain ⟨r21, rfl, hw⟩ := hq9
      refine aw_iload_n (pc := 24) C dX7_piecesIn_24 rfl rfl ?_
      obtain ⟨k_33, hk_33, hw⟩ := jn_out hw
      have J_33 : ∀ (t1_33 : Int) (h_33 : AH), k_33 t1_33 h_33 → AW G p l e ({ frames := 3, cells := 0, slots := 0, locals := 67 } : Room) s m args below meth c 0 0 (MQ below (QG G (oI Q)) args s 0 0 (frA G)) 33 (eOf [(0, vR a0), (1, vI a1), (2, vI a2), (4, vI x4_5)]) [vI t1_33, vI x3_5] h_33 := by
        intro t1_33 h_33 hw
        rw [hk_33] at hw
        obtain ⟨hp9, hw⟩ := hw
        refine aw_iadd (pc := 33) C dX7_piecesIn_33 hp9 ?_
        refine aw_nmI (fun x3_34 e9 => ?_)
        have hw := hw x3_34 e9
        refine aw_istore_n (pc := 34) C dX7_piecesIn_34 rfl (by rw [hml]; decide) ?_
        obtain ⟨hp9, hw⟩ := hw
        refine aw_iincN (pc := 35) C dX7_piecesIn_35 (k := 1) (by decide) rfl (by rw [hml]; decide) hp9 (fun x4_35 e9 => ?_)
        have hw := hw x4_35 e9
        refine aw_goto (pc := 38) (tgt := 5) C dX7_piecesIn_38 (by decide) ?_
        obtain ⟨m9, hm9, hw⟩ := hw
        refine aw_sub [(0, vR a0), (1, vI a1), (2, vI a2), (3, vI x3_34), (4, vI x4_35)] ⟨rfl, rfl, rfl, rfl, rfl, trivial⟩ ?_
        exact ih_5 m9 hm9 _ _ _ hw
      refine aw_icmp_ne (pc := 25) (tgt := 32) C dX7_piecesIn_25 (by decide) (fun hc9 => ?_) (fun hc9 => ?_)
      · have hw := hw.1 hc9
        refine aw_iconst (pc := 32) C dX7_piecesIn_32 (i := (0 : Int)) (by decide) ?_
        refine aw_sub [(0, vR a0), (1, vI a1), (2, vI a2), (4, vI x4_5)] ⟨rfl, rfl, rfl, rfl, trivial⟩ ?_
        exact J_33 _ _ hw
      · have hw := hw.2 hc9
        refine aw_iconst (pc := 28) C dX7_piecesIn_28 (i := (1 : Int)) (by decide) ?_
        refine aw_goto (pc := 29) (tgt := 33) C dX7_piecesIn_29 (by decide) ?_
        refine aw_sub [(0, vR a0), (1, vI a1), (2, vI a2), (4, vI x4_5)] ⟨rfl, rfl, rfl, rfl, trivial⟩ ?_
        exact J_33 _ _ hw
  refine aw_sub [(0, vR a0), (1, vI a1), (2, vI a2), (3, vI (0 : Int)), (4, vI (0 : Int))] ⟨rfl, rfl, rfl, rfl, rfl, trivial⟩ ?_
  exact L_5 n9 _ _ _ hi9
theorem dX7_frameNow_0 : decode cX7_frameNow 0 = .ok (.iconst 0, 1) := by decide +kernel
theorem dX7_frameNow_1 : decode cX7_frameNow 1 = .ok (.istore_n 3, 1) := by decide +kernel
theorem dX7_frameNow_2 : decode cX7_frameNow 2 = .ok (.iload_n 2, 1) := by decide +kernel
theorem dX7_frameNow_3 : decode cX7_frameNow 3 = .ok (.iconst 2, 1) := by decide +kernel
theorem dX7_frameNow_4 : decode cX7_frameNow 4 = .ok (.if_icmp .ne 38, 3) := by decide +kernel
theorem dX7_frameNow_7 : decode cX7_frameNow 7 = .ok (.iload_n 1, 1) := by decide +kernel
theorem dX7_frameNow_8 : decode cX7_frameNow 8 = .ok (.aload_n 0, 1) := by decide +kernel
theorem dX7_frameNow_9 : decode cX7_frameNow 9 = .ok (.invokevirtual 110, 3) := by decide +kernel
theorem dX7_frameNow_12 : decode cX7_frameNow 12 = .ok (.isub, 1) := by decide +kernel
theorem dX7_frameNow_13 : decode cX7_frameNow 13 = .ok (.istore 4, 2) := by decide +kernel
theorem dX7_frameNow_15 : decode cX7_frameNow 15 = .ok (.iload 4, 2) := by decide +kernel
theorem dX7_frameNow_17 : decode cX7_frameNow 17 = .ok (.iconst 0, 1) := by decide +kernel
theorem dX7_frameNow_18 : decode cX7_frameNow 18 = .ok (.aload_n 0, 1) := by decide +kernel
theorem dX7_frameNow_19 : decode cX7_frameNow 19 = .ok (.getfield 101, 3) := by decide +kernel
theorem dX7_frameNow_22 : decode cX7_frameNow 22 = .ok (.iconst 1, 1) := by decide +kernel
theorem dX7_frameNow_23 : decode cX7_frameNow 23 = .ok (.isub, 1) := by decide +kernel
theorem dX7_frameNow_24 : decode cX7_frameNow 24 = .ok (.invokestatic 65, 3) := by decide +kernel
theorem dX7_frameNow_27 : decode cX7_frameNow 27 = .ok (.ifCond .eq 13, 3) := by decide +kernel
theorem dX7_frameNow_30 : decode cX7_frameNow 30 = .ok (.aload_n 0, 1) := by decide +kernel
theorem dX7_frameNow_31 : decode cX7_frameNow 31 = .ok (.getfield 40, 3) := by decide +kernel
theorem dX7_frameNow_34 : decode cX7_frameNow 34 = .ok (.iload 4, 2) := by decide +kernel
theorem dX7_frameNow_36 : decode cX7_frameNow 36 = .ok (.iaload, 1) := by decide +kernel
theorem dX7_frameNow_37 : decode cX7_frameNow 37 = .ok (.goto 4, 3) := by decide +kernel
theorem dX7_frameNow_40 : decode cX7_frameNow 40 = .ok (.iconst 0, 1) := by decide +kernel
theorem dX7_frameNow_41 : decode cX7_frameNow 41 = .ok (.ireturn, 1) := by decide +kernel
theorem dX7_frameNow_42 : decode cX7_frameNow 42 = .ok (.iload_n 2, 1) := by decide +kernel
theorem dX7_frameNow_43 : decode cX7_frameNow 43 = .ok (.iconst 4, 1) := by decide +kernel
theorem dX7_frameNow_44 : decode cX7_frameNow 44 = .ok (.if_icmp .ne 44, 3) := by decide +kernel
theorem dX7_frameNow_47 : decode cX7_frameNow 47 = .ok (.iconst 0, 1) := by decide +kernel
theorem dX7_frameNow_48 : decode cX7_frameNow 48 = .ok (.istore 4, 2) := by decide +kernel
theorem dX7_frameNow_50 : decode cX7_frameNow 50 = .ok (.iload 4, 2) := by decide +kernel
theorem dX7_frameNow_52 : decode cX7_frameNow 52 = .ok (.aload_n 0, 1) := by decide +kernel
theorem dX7_frameNow_53 : decode cX7_frameNow 53 = .ok (.getfield 19, 3) := by decide +kernel
theorem dX7_frameNow_56 : decode cX7_frameNow 56 = .ok (.iconst 0, 1) := by decide +kernel
theorem dX7_frameNow_57 : decode cX7_frameNow 57 = .ok (.iaload, 1) := by decide +kernel
theorem dX7_frameNow_58 : decode cX7_frameNow 58 = .ok (.if_icmp .ge 28, 3) := by decide +kernel
theorem dX7_frameNow_61 : decode cX7_frameNow 61 = .ok (.iload_n 3, 1) := by decide +kernel
theorem dX7_frameNow_62 : decode cX7_frameNow 62 = .ok (.aload_n 0, 1) := by decide +kernel
theorem dX7_frameNow_63 : decode cX7_frameNow 63 = .ok (.iload_n 1, 1) := by decide +kernel
theorem dX7_frameNow_64 : decode cX7_frameNow 64 = .ok (.iload 4, 2) := by decide +kernel
theorem dX7_frameNow_66 : decode cX7_frameNow 66 = .ok (.invokevirtual 137, 3) := by decide +kernel
theorem dX7_frameNow_69 : decode cX7_frameNow 69 = .ok (.iconst (-1), 1) := by decide +kernel
theorem dX7_frameNow_70 : decode cX7_frameNow 70 = .ok (.if_icmp .ne 7, 3) := by decide +kernel
theorem dX7_frameNow_73 : decode cX7_frameNow 73 = .ok (.iconst 0, 1) := by decide +kernel
theorem dX7_frameNow_74 : decode cX7_frameNow 74 = .ok (.goto 4, 3) := by decide +kernel
theorem dX7_frameNow_77 : decode cX7_frameNow 77 = .ok (.iconst 1, 1) := by decide +kernel
theorem dX7_frameNow_78 : decode cX7_frameNow 78 = .ok (.iadd, 1) := by decide +kernel
theorem dX7_frameNow_79 : decode cX7_frameNow 79 = .ok (.istore_n 3, 1) := by decide +kernel
theorem dX7_frameNow_80 : decode cX7_frameNow 80 = .ok (.iinc 4 1, 3) := by decide +kernel
theorem dX7_frameNow_83 : decode cX7_frameNow 83 = .ok (.goto (-33), 3) := by decide +kernel
theorem dX7_frameNow_86 : decode cX7_frameNow 86 = .ok (.iload_n 3, 1) := by decide +kernel
theorem dX7_frameNow_87 : decode cX7_frameNow 87 = .ok (.ireturn, 1) := by decide +kernel
theorem dX7_frameNow_88 : decode cX7_frameNow 88 = .ok (.iconst 0, 1) := by decide +kernel
theorem dX7_frameNow_89 : decode cX7_frameNow 89 = .ok (.istore 4, 2) := by decide +kernel
theorem dX7_frameNow_91 : decode cX7_frameNow 91 = .ok (.iload 4, 2) := by decide +kernel
theorem dX7_frameNow_93 : decode cX7_frameNow 93 = .ok (.bipush 80, 2) := by decide +kernel
theorem dX7_frameNow_95 : decode cX7_frameNow 95 = .ok (.if_icmp .ge 94, 3) := by decide +kernel
theorem dX7_frameNow_98 : decode cX7_frameNow 98 = .ok (.iload_n 2, 1) := by decide +kernel
theorem dX7_frameNow_99 : decode cX7_frameNow 99 = .ok (.ifCond .ne 26, 3) := by decide +kernel
theorem dX7_frameNow_102 : decode cX7_frameNow 102 = .ok (.iload_n 3, 1) := by decide +kernel
theorem dX7_frameNow_103 : decode cX7_frameNow 103 = .ok (.aload_n 0, 1) := by decide +kernel
theorem dX7_frameNow_104 : decode cX7_frameNow 104 = .ok (.iload_n 1, 1) := by decide +kernel
theorem dX7_frameNow_105 : decode cX7_frameNow 105 = .ok (.iload 4, 2) := by decide +kernel
theorem dX7_frameNow_107 : decode cX7_frameNow 107 = .ok (.invokevirtual 195, 3) := by decide +kernel
theorem dX7_frameNow_110 : decode cX7_frameNow 110 = .ok (.bipush 32, 2) := by decide +kernel
theorem dX7_frameNow_112 : decode cX7_frameNow 112 = .ok (.if_icmp .ne 7, 3) := by decide +kernel
theorem dX7_frameNow_115 : decode cX7_frameNow 115 = .ok (.iconst 0, 1) := by decide +kernel
theorem dX7_frameNow_116 : decode cX7_frameNow 116 = .ok (.goto 4, 3) := by decide +kernel
theorem dX7_frameNow_119 : decode cX7_frameNow 119 = .ok (.iconst 1, 1) := by decide +kernel
theorem dX7_frameNow_120 : decode cX7_frameNow 120 = .ok (.iadd, 1) := by decide +kernel
theorem dX7_frameNow_121 : decode cX7_frameNow 121 = .ok (.istore_n 3, 1) := by decide +kernel
theorem dX7_frameNow_122 : decode cX7_frameNow 122 = .ok (.goto 61, 3) := by decide +kernel
theorem dX7_frameNow_125 : decode cX7_frameNow 125 = .ok (.iload_n 2, 1) := by decide +kernel
theorem dX7_frameNow_126 : decode cX7_frameNow 126 = .ok (.iconst 1, 1) := by decide +kernel
theorem dX7_frameNow_127 : decode cX7_frameNow 127 = .ok (.if_icmp .ne 37, 3) := by decide +kernel
theorem dX7_frameNow_130 : decode cX7_frameNow 130 = .ok (.iload_n 3, 1) := by decide +kernel
theorem dX7_frameNow_131 : decode cX7_frameNow 131 = .ok (.iload_n 1, 1) := by decide +kernel
theorem dX7_frameNow_132 : decode cX7_frameNow 132 = .ok (.ifCond .le 26, 3) := by decide +kernel
theorem dX7_frameNow_135 : decode cX7_frameNow 135 = .ok (.aload_n 0, 1) := by decide +kernel
theorem dX7_frameNow_136 : decode cX7_frameNow 136 = .ok (.iload_n 1, 1) := by decide +kernel
theorem dX7_frameNow_137 : decode cX7_frameNow 137 = .ok (.iload 4, 2) := by decide +kernel
theorem dX7_frameNow_139 : decode cX7_frameNow 139 = .ok (.invokevirtual 195, 3) := by decide +kernel
theorem dX7_frameNow_142 : decode cX7_frameNow 142 = .ok (.aload_n 0, 1) := by decide +kernel
theorem dX7_frameNow_143 : decode cX7_frameNow 143 = .ok (.iload_n 1, 1) := by decide +kernel
theorem dX7_frameNow_144 : decode cX7_frameNow 144 = .ok (.iconst 1, 1) := by decide +kernel
theorem dX7_frameNow_145 : decode cX7_frameNow 145 = .ok (.isub, 1) := by decide +kernel
theorem dX7_frameNow_146 : decode cX7_frameNow 146 = .ok (.iload 4, 2) := by decide +kernel
theorem dX7_frameNow_148 : decode cX7_frameNow 148 = .ok (.invokevirtual 195, 3) := by decide +kernel
theorem dX7_frameNow_151 : decode cX7_frameNow 151 = .ok (.if_icmp .eq 7, 3) := by decide +kernel
theorem dX7_frameNow_154 : decode cX7_frameNow 154 = .ok (.iconst 1, 1) := by decide +kernel
theorem dX7_frameNow_155 : decode cX7_frameNow 155 = .ok (.goto 4, 3) := by decide +kernel
theorem dX7_frameNow_158 : decode cX7_frameNow 158 = .ok (.iconst 0, 1) := by decide +kernel
theorem dX7_frameNow_159 : decode cX7_frameNow 159 = .ok (.iadd, 1) := by decide +kernel
theorem dX7_frameNow_160 : decode cX7_frameNow 160 = .ok (.istore_n 3, 1) := by decide +kernel
theorem dX7_frameNow_161 : decode cX7_frameNow 161 = .ok (.goto 22, 3) := by decide +kernel
theorem dX7_frameNow_164 : decode cX7_frameNow 164 = .ok (.iload_n 3, 1) := by decide +kernel
theorem dX7_frameNow_165 : decode cX7_frameNow 165 = .ok (.aload_n 0, 1) := by decide +kernel
theorem dX7_frameNow_166 : decode cX7_frameNow 166 = .ok (.iload_n 1, 1) := by decide +kernel
theorem dX7_frameNow_167 : decode cX7_frameNow 167 = .ok (.iload 4, 2) := by decide +kernel
theorem dX7_frameNow_169 : decode cX7_frameNow 169 = .ok (.invokevirtual 198, 3) := by decide +kernel
theorem dX7_frameNow_172 : decode cX7_frameNow 172 = .ok (.iconst 1, 1) := by decide +kernel
theorem dX7_frameNow_173 : decode cX7_frameNow 173 = .ok (.if_icmp .le 7, 3) := by decide +kernel
theorem dX7_frameNow_176 : decode cX7_frameNow 176 = .ok (.iconst 1, 1) := by decide +kernel
theorem dX7_frameNow_177 : decode cX7_frameNow 177 = .ok (.goto 4, 3) := by decide +kernel
theorem dX7_frameNow_180 : decode cX7_frameNow 180 = .ok (.iconst 0, 1) := by decide +kernel
theorem dX7_frameNow_181 : decode cX7_frameNow 181 = .ok (.iadd, 1) := by decide +kernel
theorem dX7_frameNow_182 : decode cX7_frameNow 182 = .ok (.istore_n 3, 1) := by decide +kernel
theorem dX7_frameNow_183 : decode cX7_frameNow 183 = .ok (.iinc 4 1, 3) := by decide +kernel
theorem dX7_frameNow_186 : decode cX7_frameNow 186 = .ok (.goto (-95), 3) := by decide +kernel
theorem dX7_frameNow_189 : decode cX7_frameNow 189 = .ok (.iload_n 3, 1) := by decide +kernel
theorem dX7_frameNow_190 : decode cX7_frameNow 190 = .ok (.ireturn, 1) := by decide +kernel
theorem pd_X7_frameNow : (parseMethodDescriptor yX7_frameNow.desc).map (fun d => d.parameters.length) = some 2 := by decide +kernel
def w_X7_frameNow (zz : Nat → Nat) (a0 : Nat) (a1 : Int) (a2 : Int) (h : AH) (Q : Int → AH → Prop) : Prop := ((¬ a2 = (2 : Int)) → ((¬ a2 = (4 : Int)) → ∃ I_91 : Nat → Int → Int → AH → Prop, (∃ n, I_91 n (0 : Int) (0 : Int) h) ∧ ∀ (n_91 : Nat) (x3_91 : Int) (x4_91 : Int) (h_91 : AH), I_91 n_91 x3_91 x4_91 h_91 → ((((80 : Int) ≤ x4_91) → Q x3_91 h_91) ∧ ((¬ ((80 : Int) ≤ x4_91)) → jn (fun (x3_183 : Int) (h_183 : AH) => inR (x4_91 + 1) ∧ ∀ x4_183 : Int, x4_183 = (x4_91 + 1) → ∃ m, m < n_91 ∧ I_91 m x3_183 x4_183 h_183) (fun k_183 : Int → AH → Prop => ((¬ a2 = 0) → ((¬ a2 = (1 : Int)) → okA h_91 a0 7 ∧ w_X7_piecesIn zz a0 a1 x4_91 h_91 (fun (r169 : Int) (h169 : AH) => jn (fun (t1_181 : Int) (h_181 : AH) => inR (x3_91 + t1_181) ∧ ∀ x3_182 : Int, x3_182 = (x3_91 + t1_181) → k_183 x3_182 h_181) (fun k_181 : Int → AH → Prop => ((r169 ≤ (1 : Int)) → k_181 (0 : Int) h169) ∧ ((¬ (r169 ≤ (1 : Int))) → k_181 (1 : Int) h169)))) ∧ ((a2 = (1 : Int)) → jn (fun (t1_159 : Int) (h_159 : AH) => inR (x3_91 + t1_159) ∧ ∀ x3_160 : Int, x3_160 = (x3_91 + t1_159) → k_183 x3_160 h_159) (fun k_159 : Int → AH → Prop => jn (fun  (h_158 : AH) => k_159 (0 : Int) h_158) (fun k_158 : AH → Prop => ((a1 ≤ 0) → k_158  h_91) ∧ ((¬ (a1 ≤ 0)) → okA h_91 a0 7 ∧ w_X7_shown zz a0 a1 x4_91 h_91 (fun (r139 : Int) (h139 : AH) => inR (a1 - (1 : Int)) ∧ okA h139 a0 7 ∧ w_X7_shown zz a0 (a1 - (1 : Int)) x4_91 h139 (fun (r148 : Int) (h148 : AH) => ((r139 = r148) → k_158  h148) ∧ ((¬ (r139 = r148)) → k_159 (1 : Int) h148)))))))) ∧ ((a2 = 0) → okA h_91 a0 7 ∧ w_X7_shown zz a0 a1 x4_91 h_91 (fun (r107 : Int) (h107 : AH) => jn (fun (t1_120 : Int) (h_120 : AH) => inR (x3_91 + t1_120) ∧ ∀ x3_121 : Int, x3_121 = (x3_91 + t1_120) → k_183 x3_121 h_120) (fun k_120 : Int → AH → Prop => ((¬ r107 = (32 : Int)) → k_120 (1 : Int) h107) ∧ ((r107 = (32 : Int)) → k_120 (0 : Int) h107)))))))) ∧ ((a2 = (4 : Int)) → ∃ I_50 : Nat → Int → Int → AH → Prop, (∃ n, I_50 n (0 : Int) (0 : Int) h) ∧ ∀ (n_50 : Nat) (x3_50 : Int) (x4_50 : Int) (h_50 : AH), I_50 n_50 x3_50 x4_50 h_50 → (okA h_50 a0 7 ∧ ∃ b53 : Nat, hfR h_50 a0 6 = some b53 ∧ okI h_50 b53 (0 : Int) ∧ (((haI h_50 b53 (0 : Int)) ≤ x4_50) → Q x3_50 h_50) ∧ ((¬ ((haI h_50 b53 (0 : Int)) ≤ x4_50)) → okA h_50 a0 7 ∧ w_X7_placeIn zz a0 a1 x4_50 h_50 (fun (r66 : Int) (h66 : AH) => jn (fun (t1_78 : Int) (h_78 : AH) => inR (x3_50 + t1_78) ∧ ∀ x3_79 : Int, x3_79 = (x3_50 + t1_78) → inR (x4_50 + 1) ∧ ∀ x4_80 : Int, x4_80 = (x4_50 + 1) → ∃ m, m < n_50 ∧ I_50 m x3_79 x4_80 h_78) (fun k_78 : Int → AH → Prop => ((¬ r66 = (-1 : Int)) → k_78 (1 : Int) h66) ∧ ((r66 = (-1 : Int)) → k_78 (0 : Int) h66))))))) ∧ ((a2 = (2 : Int)) → okA h a0 7 ∧ w_X7_firstMoving zz a0 h (fun (r9 : Int) (h9 : AH) => inR (a1 - r9) ∧ ∀ x4_13 : Int, x4_13 = (a1 - r9) → okA h9 a0 7 ∧ inR ((hfI h9 a0 12) - (1 : Int)) ∧ w_X7_within zz x4_13 (0 : Int) ((hfI h9 a0 12) - (1 : Int)) h9 (fun (r24 : Int) (h24 : AH) => jn (fun (t0_41 : Int) (h_41 : AH) => Q t0_41 h_41) (fun k_41 : Int → AH → Prop => ((r24 = 0) → k_41 (0 : Int) h24) ∧ ((¬ (r24 = 0)) → okA h24 a0 7 ∧ ∃ b31 : Nat, hfR h24 a0 14 = some b31 ∧ okI h24 b31 x4_13 ∧ k_41 (haI h24 b31 x4_13) h24)))))
set_option maxRecDepth 100000 in
set_option maxHeartbeats 4000000 in
theorem met_X7_frameNow (G : GG) (l : Launch) : ∀ (As : List Value) (a0 : Nat) (a1 : Int) (a2 : Int) (h : AH) (Q : Int → AH → Prop), As.map ab = List.map some ([vR a0, vI a1, vI a2] : List AV) → w_X7_frameNow G.2.2 a0 a1 a2 h Q → Met l yX7_frameNow (.code yX7_frameNow cX7_frameNow 5 (some .int) :: xTb) ({ frames := 5, cells := 0, slots := 0, locals := 114 } : Room) (PcA G As h) (QG G (oI Q)) 0 0 (frA G) := by
  intro As a0 a1 a2 h Q hA hw
  refine met_of hA (by decide) (Nat.le_of_ble_eq_true rfl) (fun p e s m args below meth c C hml hr hnm => ?_)
  unfold w_X7_frameNow at hw
  refine aw_iconst (pc := 0) C dX7_frameNow_0 (i := (0 : Int)) (by decide) ?_
  refine aw_istore_n (pc := 1) C dX7_frameNow_1 rfl (by rw [hml]; decide) ?_
  refine aw_iload_n (pc := 2) C dX7_frameNow_2 rfl rfl ?_
  refine aw_iconst (pc := 3) C dX7_frameNow_3 (i := (2 : Int)) (by decide) ?_
  refine aw_icmp_ne (pc := 4) (tgt := 42) C dX7_frameNow_4 (by decide) (fun hc9 => ?_) (fun hc9 => ?_)
  · have hw := hw.1 hc9
    refine aw_iload_n (pc := 42) C dX7_frameNow_42 rfl rfl ?_
    refine aw_iconst (pc := 43) C dX7_frameNow_43 (i := (4 : Int)) (by decide) ?_
    refine aw_icmp_ne (pc := 44) (tgt := 88) C dX7_frameNow_44 (by decide) (fun hc9 => ?_) (fun hc9 => ?_)
    · have hw := hw.1 hc9
      refine aw_iconst (pc := 88) C dX7_frameNow_88 (i := (0 : Int)) (by decide) ?_
      refine aw_istore (pc := 89) C dX7_frameNow_89 (by rw [hml]; decide) ?_
      obtain ⟨I_91, ⟨n9, hi9⟩, hst9⟩ := hw
      have L_91 : ∀ (n_91 : Nat) (x3_91 : Int) (x4_91 : Int) (h_91 : AH), I_91 n_91 x3_91 x4_91 h_91 → AW G p l e ({ frames := 5, cells := 0, slots := 0, locals := 114 } : Room) s m args below meth c 0 0 (MQ below (QG G (oI Q)) args s 0 0 (frA G)) 91 (eOf [(0, vR a0), (1, vI a1), (2, vI a2), (3, vI x3_91), (4, vI x4_91)]) [] h_91 := by
        intro n_91
        induction n_91 using Nat.strongRecOn with
        | _ n_91 ih_91 =>
        intro x3_91 x4_91 h_91 hi9
        have hw := hst9 n_91 x3_91 x4_91 h_91 hi9
        refine aw_iload (pc := 91) C dX7_frameNow_91 rfl ?_
        refine aw_bipush (pc := 93) C dX7_frameNow_93 (i := (80 : Int)) (by decide) ?_
        refine aw_icmp_ge (pc := 95) (tgt := 189) C dX7_frameNow_95 (by decide) (fun hc9 => ?_) (fun hc9 => ?_)
        · have hw := hw.1 hc9
          refine aw_iload_n (pc := 189) C dX7_frameNow_189 rfl rfl ?_
          exact aw_iret (pc := 190) C hr dX7_frameNow_190 ⟨Nat.le_of_ble_eq_true rfl, Nat.le_of_ble_eq_true rfl⟩ ⟨_, rfl, hw⟩
        · have hw := hw.2 hc9
          refine aw_iload_n (pc := 98) C dX7_frameNow_98 rfl rfl ?_
          obtain ⟨k_183, hk_183, hw⟩ := jn_out hw
          have J_183 : ∀ (x3_183 : Int) (h_183 : AH), k_183 x3_183 h_183 → AW G p l e ({ frames := 5, cells := 0, slots := 0, locals := 114 } : Room) s m args below meth c 0 0 (MQ below (QG G (oI Q)) args s 0 0 (frA G)) 183 (eOf [(0, vR a0), (1, vI a1), (2, vI a2), (3, vI x3_183), (4, vI x4_91)]) [] h_183 := by
            intro x3_183 h_183 hw
            rw [hk_183] at hw
            obtain ⟨hp9, hw⟩ := hw
            refine aw_iincN (pc := 183) C dX7_frameNow_183 (k := 1) (by decide) rfl (by rw [hml]; decide) hp9 (fun x4_183 e9 => ?_)
            have hw := hw x4_183 e9
            refine aw_goto (pc := 186) (tgt := 91) C dX7_frameNow_186 (by decide) ?_
            obtain ⟨m9, hm9, hw⟩ := hw
            refine aw_sub [(0, vR a0), (1, vI a1), (2, vI a2), (3, vI x3_183), (4, vI x4_183)] ⟨rfl, rfl, rfl, rfl, rfl, trivial⟩ ?_
            exact ih_91 m9 hm9 _ _ _ hw
          refine aw_if_ne (pc := 99) (tgt := 125) C dX7_frameNow_99 (by decide) (fun hc9 => ?_) (fun hc9 => ?_)
          · have hw := hw.1 hc9
            refine aw_iload_n (pc := 125) C dX7_frameNow_125 rfl rfl ?_
            refine aw_iconst (pc := 126) C dX7_frameNow_126 (i := (1 : Int)) (by decide) ?_
            refine aw_icmp_ne (pc := 127) (tgt := 164) C dX7_frameNow_127 (by decide) (fun hc9 => ?_) (fun hc9 => ?_)
            · have hw := hw.1 hc9
              refine aw_iload_n (pc := 164) C dX7_frameNow_164 rfl rfl ?_
              refine aw_aload_n (pc := 165) C dX7_frameNow_165 rfl rfl ?_
              refine aw_iload_n (pc := 166) C dX7_frameNow_166 rfl rfl ?_
              refine aw_iload (pc := 167) C dX7_frameNow_167 rfl ?_
              obtain ⟨hp9, hw⟩ := hw
              refine aw_callV (pc := 169) (as := [vI a1, vI x4_91]) C ci7 (fun As hA => met_X7_piecesIn G l As a0 a1 x4_91 _ _ hA hw) tw1065 tw1067 (tbp 67 (n := 21) (by decide +kernel)) tw10 tw1068 ⟨rfl, rfl⟩ ⟨rfl, by decide, by decide, pd_X7_piecesIn⟩ ⟨Nat.le_of_ble_eq_true rfl, Nat.le_of_ble_eq_true rfl⟩ ⟨Nat.zero_le _, Nat.zero_le _⟩ (Nat.le_of_ble_eq_true rfl) dX7_frameNow_169 rfl hp9 (fun v9 h169 hq9 => ?_)
              obtain ⟨r169, rfl, hw⟩ := hq9
              refine aw_iconst (pc := 172) C dX7_frameNow_172 (i := (1 : Int)) (by decide) ?_
              obtain ⟨k_181, hk_181, hw⟩ := jn_out hw
              have J_181 : ∀ (t1_181 : Int) (h_181 : AH), k_181 t1_181 h_181 → AW G p l e ({ frames := 5, cells := 0, slots := 0, locals := 114 } : Room) s m args below meth c 0 0 (MQ below (QG G (oI Q)) args s 0 0 (frA G)) 181 (eOf [(0, vR a0), (1, vI a1), (2, vI a2), (4, vI x4_91)]) [vI t1_181, vI x3_91] h_181 := by
                intro t1_181 h_181 hw
                rw [hk_181] at hw
                obtain ⟨hp9, hw⟩ := hw
                refine aw_iadd (pc := 181) C dX7_frameNow_181 hp9 ?_
                refine aw_nmI (fun x3_182 e9 => ?_)
                have hw := hw x3_182 e9
                refine aw_istore_n (pc := 182) C dX7_frameNow_182 rfl (by rw [hml]; decide) ?_
                refine aw_sub [(0, vR a0), (1, vI a1), (2, vI a2), (3, vI x3_182), (4, vI x4_91)] ⟨rfl, rfl, rfl, rfl, rfl, trivial⟩ ?_
                exact J_183 _ _ hw
              refine aw_icmp_le (pc := 173) (tgt := 180) C dX7_frameNow_173 (by decide) (fun hc9 => ?_) (fun hc9 => ?_)
              · have hw := hw.1 hc9
                refine aw_iconst (pc := 180) C dX7_frameNow_180 (i := (0 : Int)) (by decide) ?_
                refine aw_sub [(0, vR a0), (1, vI a1), (2, vI a2), (4, vI x4_91)] ⟨rfl, rfl, rfl, rfl, trivial⟩ ?_
                exact J_181 _ _ hw
              · have hw := hw.2 hc9
                refine aw_iconst (pc := 176) C dX7_frameNow_176 (i := (1 : Int)) (by decide) ?_
                refine aw_goto (pc := 177) (tgt := 181) C dX7_frameNow_177 (by decide) ?_
                refine aw_sub [(0, vR a0), (1, vI a1), (2, vI a2), (4, vI x4_91)] ⟨rfl, rfl, rfl, rfl, trivial⟩ ?_
                exact J_181 _ _ hw
            · have hw := hw.2 hc9
              refine aw_iload_n (pc := 130) C dX7_frameNow_130 rfl rfl ?_
              refine aw_iload_n (pc := 131) C dX7_frameNow_131 rfl rfl ?_
              obtain ⟨k_159, hk_159, hw⟩ := jn_out hw
              have J_159 : ∀ (t1_159 : Int) (h_159 : AH), k_159 t1_159 h_159 → AW G p l e ({ frames := 5, cells := 0, slots := 0, locals := 114 } : Room) s m args below meth c 0 0 (MQ below (QG G (oI Q)) args s 0 0 (frA G)) 159 (eOf [(0, vR a0), (1, vI a1), (2, vI a2), (4, vI x4_91)]) [vI t1_159, vI x3_91] h_159 := by
                intro t1_159 h_159 hw
                rw [hk_159] at hw
                obtain ⟨hp9, hw⟩ := hw
                refine aw_iadd (pc := 159) C dX7_frameNow_159 hp9 ?_
                refine aw_nmI (fun x3_160 e9 => ?_)
                have hw := hw x3_160 e9
                refine aw_istore_n (pc := 160) C dX7_frameNow_160 rfl (by rw [hml]; decide) ?_
                refine aw_goto (pc := 161) (tgt := 183) C dX7_frameNow_161 (by decide) ?_
                refine aw_sub [(0, vR a0), (1, vI a1), (2, vI a2), (3, vI x3_160), (4, vI x4_91)] ⟨rfl, rfl, rfl, rfl, rfl, trivial⟩ ?_
                exact J_183 _ _ hw
              obtain ⟨k_158, hk_158, hw⟩ := jn_out hw
              have J_158 : ∀  (h_158 : AH), k_158  h_158 → AW G p l e ({ frames := 5, cells := 0, slots := 0, locals := 114 } : Room) s m args below meth c 0 0 (MQ below (QG G (oI Q)) args s 0 0 (frA G)) 158 (eOf [(0, vR a0), (1, vI a1), (2, vI a2), (4, vI x4_91)]) [vI x3_91] h_158 := by
                intro  h_158 hw
                rw [hk_158] at hw
                refine aw_iconst (pc := 158) C dX7_frameNow_158 (i := (0 : Int)) (by decide) ?_
                refine aw_sub [(0, vR a0), (1, vI a1), (2, vI a2), (4, vI x4_91)] ⟨rfl, rfl, rfl, rfl, trivial⟩ ?_
                exact J_159 _ _ hw
              refine aw_if_le (pc := 132) (tgt := 158) C dX7_frameNow_132 (by decide) (fun hc9 => ?_) (fun hc9 => ?_)
              · have hw := hw.1 hc9
                refine aw_sub [(0, vR a0), (1, vI a1), (2, vI a2), (4, vI x4_91)] ⟨rfl, rfl, rfl, rfl, trivial⟩ ?_
                exact J_158  _ hw
              · have hw := hw.2 hc9
                refine aw_aload_n (pc := 135) C dX7_frameNow_135 rfl rfl ?_
                refine aw_iload_n (pc := 136) C dX7_frameNow_136 rfl rfl ?_
                refine aw_iload (pc := 137) C dX7_frameNow_137 rfl ?_
                obtain ⟨hp9, hw⟩ := hw
                refine aw_callV (pc := 139) (as := [vI a1, vI x4_91]) C ci7 (fun As hA => met_X7_shown G l As a0 a1 x4_91 _ _ hA hw) tw1041 tw1043 (tbp 63 (n := 21) (by decide +kernel)) tw10 tw1044 ⟨rfl, rfl⟩ ⟨rfl, by decide, by decide, pd_X7_shown⟩ ⟨Nat.le_of_ble_eq_true rfl, Nat.le_of_ble_eq_true rfl⟩ ⟨Nat.zero_le _, Nat.zero_le _⟩ (Nat.le_of_ble_eq_true rfl) dX7_frameNow_139 rfl hp9 (fun v9 h139 hq9 => ?_)
                obtain ⟨r139, rfl, hw⟩ := hq9
                refine aw_aload_n (pc := 142) C dX7_frameNow_142 rfl rfl ?_
                refine aw_iload_n (pc := 143) C dX7_frameNow_143 rfl rfl ?_
                refine aw_iconst (pc := 144) C dX7_frameNow_144 (i := (1 : Int)) (by decide) ?_
                obtain ⟨hp9, hw⟩ := hw
                refine aw_isub (pc := 145) C dX7_frameNow_145 hp9 ?_
                refine aw_iload (pc := 146) C dX7_frameNow_146 rfl ?_
                obtain ⟨hp9, hw⟩ := hw
                refine aw_callV (pc := 148) (as := [vI (a1 - (1 : Int)), vI x4_91]) C ci7 (fun As hA => met_X7_shown G l As a0 (a1 - (1 : Int)) x4_91 _ _ hA hw) tw1041 tw1043 (tbp 63 (n := 21) (by decide +kernel)) tw10 tw1044 ⟨rfl, rfl⟩ ⟨rfl, by decide, by decide, pd_X7_shown⟩ ⟨Nat.le_of_ble_eq_true rfl, Nat.le_of_ble_eq_true rfl⟩ ⟨Nat.zero_le _, Nat.zero_le _⟩ (Nat.le_of_ble_eq_true rfl) dX7_frameNow_148 rfl hp9 (fun v9 h148 hq9 => ?_)
                obtain ⟨r148, rfl, hw⟩ := hq9
                refine aw_icmp_eq (pc := 151) (tgt := 158) C dX7_frameNow_151 (by decide) (fun hc9 => ?_) (fun hc9 => ?_)
                · have hw := hw.1 hc9
                  refine aw_sub [(0, vR a0), (1, vI a1), (2, vI a2), (4, vI x4_91)] ⟨rfl, rfl, rfl, rfl, trivial⟩ ?_
                  exact J_158  _ hw
                · have hw := hw.2 hc9
                  refine aw_iconst (pc := 154) C dX7_frameNow_154 (i := (1 : Int)) (by decide) ?_
                  refine aw_goto (pc := 155) (tgt := 159) C dX7_frameNow_155 (by decide) ?_
                  refine aw_sub [(0, vR a0), (1, vI a1), (2, vI a2), (4, vI x4_91)] ⟨rfl, rfl, rfl, rfl, trivial⟩ ?_
                  exact J_159 _ _ hw
          · have hw := hw.2 hc9
            refine aw_iload_n (pc := 102) C dX7_frameNow_102 rfl rfl ?_
            refine aw_aload_n (pc := 103) C dX7_frameNow_103 rfl rfl ?_
            refine aw_iload_n (pc := 104) C dX7_frameNow_104 rfl rfl ?_
            refine aw_iload (pc := 105) C dX7_frameNow_105 rfl ?_
            obtain ⟨hp9, hw⟩ := hw
            refine aw_callV (pc := 107) (as := [vI a1, vI x4_91]) C ci7 (fun As hA => met_X7_shown G l As a0 a1 x4_91 _ _ hA hw) tw1041 tw1043 (tbp 63 (n := 21) (by decide +kernel)) tw10 tw1044 ⟨rfl, rfl⟩ ⟨rfl, by decide, by decide, pd_X7_shown⟩ ⟨Nat.le_of_ble_eq_true rfl, Nat.le_of_ble_eq_true rfl⟩ ⟨Nat.zero_le _, Nat.zero_le _⟩ (Nat.le_of_ble_eq_true rfl) dX7_frameNow_107 rfl hp9 (fun v9 h107 hq9 => ?_)
            obtain ⟨r107, rfl, hw⟩ := hq9
            refine aw_bipush (pc := 110) C dX7_frameNow_110 (i := (32 : Int)) (by decide) ?_
            obtain ⟨k_120, hk_120, hw⟩ := jn_out hw
            have J_120 : ∀ (t1_120 : Int) (h_120 : AH), k_120 t1_120 h_120 → AW G p l e ({ frames := 5, cells := 0, slots := 0, locals := 114 } : Room) s m args below meth c 0 0 (MQ below (QG G (oI Q)) args s 0 0 (frA G)) 120 (eOf [(0, vR a0), (1, vI a1), (2, vI a2), (4, vI x4_91)]) [vI t1_120, vI x3_91] h_120 := by
              intro t1_120 h_120 hw
              rw [hk_120] at hw
              obtain ⟨hp9, hw⟩ := hw
              refine aw_iadd (pc := 120) C dX7_frameNow_120 hp9 ?_
              refine aw_nmI (fun x3_121 e9 => ?_)
              have hw := hw x3_121 e9
              refine aw_istore_n (pc := 121) C dX7_frameNow_121 rfl (by rw [hml]; decide) ?_
              refine aw_goto (pc := 122) (tgt := 183) C dX7_frameNow_122 (by decide) ?_
              refine aw_sub [(0, vR a0), (1, vI a1), (2, vI a2), (3, vI x3_121), (4, vI x4_91)] ⟨rfl, rfl, rfl, rfl, rfl, trivial⟩ ?_
              exact J_183 _ _ hw
            refine aw_icmp_ne (pc := 112) (tgt := 119) C dX7_frameNow_112 (by decide) (fun hc9 => ?_) (fun hc9 => ?_)
            · have hw := hw.1 hc9
              refine aw_iconst (pc := 119) C dX7_frameNow_119 (i := (1 : Int)) (by decide) ?_
              refine aw_sub [(0, vR a0), (1, vI a1), (2, vI a2), (4, vI x4_91)] ⟨rfl, rfl, rfl, rfl, trivial⟩ ?_
              exact J_120 _ _ hw
            · have hw := hw.2 hc9
              refine aw_iconst (pc := 115) C dX7_frameNow_115 (i := (0 : Int)) (by decide) ?_
              refine aw_goto (pc := 116) (tgt := 120) C dX7_frameNow_116 (by decide) ?_
              refine aw_sub [(0, vR a0), (1, vI a1), (2, vI a2), (4, vI x4_91)] ⟨rfl, rfl, rfl, rfl, trivial⟩ ?_
              exact J_120 _ _ hw
      refine aw_sub [(0, vR a0), (1, vI a1), (2, vI a2), (3, vI (0 : Int)), (4, vI (0 : Int))] ⟨rfl, rfl, rfl, rfl, rfl, trivial⟩ ?_
      exact L_91 n9 _ _ _ hi9
    · have hw := hw.2 hc9
      refine aw_iconst (pc := 47) C dX7_frameNow_47 (i := (0 : Int)) (by decide) ?_
      refine aw_istore (pc := 48) C dX7_frameNow_48 (by rw [hml]; decide) ?_
      obtain ⟨I_50, ⟨n9, hi9⟩, hst9⟩ := hw
      have L_50 : ∀ (n_50 : Nat) (x3_50 : Int) (x4_50 : Int) (h_50 : AH), I_50 n_50 x3_50 x4_50 h_50 → AW G p l e ({ frames := 5, cells := 0, slots := 0, locals := 114 } : Room) s m args below meth c 0 0 (MQ below (QG G (oI Q)) args s 0 0 (frA G)) 50 (eOf [(0, vR a0), (1, vI a1), (3, vI x3_50), (4, vI x4_50)]) [] h_50 := by
        intro n_50
        induction n_50 using Nat.strongRecOn with
        | _ n_50 ih_50 =>
        intro x3_50 x4_50 h_50 hi9
        have hw := hst9 n_50 x3_50 x4_50 h_50 hi9
        refine aw_iload (pc := 50) C dX7_frameNow_50 rfl ?_
        refine aw_aload_n (pc := 52) C dX7_frameNow_52 rfl rfl ?_
        obtain ⟨hp9, b53, hb9, hw⟩ := hw
        refine aw_getR (pc := 53) C (ci := 7) (k := 6) ci7 (by decide) tw798 dX7_frameNow_53 rfl hp9 hb9 ?_
        refine aw_iconst (pc := 56) C dX7_frameNow_56 (i := (0 : Int)) (by decide) ?_
        obtain ⟨⟨k9, hp9⟩, hw⟩ := hw
        refine aw_iald (pc := 57) C dX7_frameNow_57 hp9 ?_
        refine aw_icmp_ge (pc := 58) (tgt := 86) C dX7_frameNow_58 (by decide) (fun hc9 => ?_) (fun hc9 => ?_)
        · have hw := hw.1 hc9
          refine aw_iload_n (pc := 86) C dX7_frameNow_86 rfl rfl ?_
          exact aw_iret (pc := 87) C hr dX7_frameNow_87 ⟨Nat.le_of_ble_eq_true rfl, Nat.le_of_ble_eq_true rfl⟩ ⟨_, rfl, hw⟩
        · have hw := hw.2 hc9
          refine aw_iload_n (pc := 61) C dX7_frameNow_61 rfl rfl ?_
          refine aw_aload_n (pc := 62) C dX7_frameNow_62 rfl rfl ?_
          refine aw_iload_n (pc := 63) C dX7_frameNow_63 rfl rfl ?_
          refine aw_iload (pc := 64) C dX7_frameNow_64 rfl ?_
          obtain ⟨hp9, hw⟩ := hw
          refine aw_callV (pc := 66) (as := [vI a1, vI x4_50]) C ci7 (fun As hA => met_X7_placeIn G l As a0 a1 x4_50 _ _ hA hw) tw1045 tw1047 (tbp 64 (n := 21) (by decide +kernel)) tw10 tw1048 ⟨rfl, rfl⟩ ⟨rfl, by decide, by decide, pd_X7_placeIn⟩ ⟨Nat.le_of_ble_eq_true rfl, Nat.le_of_ble_eq_true rfl⟩ ⟨Nat.zero_le _, Nat.zero_le _⟩ (Nat.le_of_ble_eq_true rfl) dX7_frameNow_66 rfl hp9 (fun v9 h66 hq9 => ?_)
          obtain ⟨r66, rfl, hw⟩ := hq9
          refine aw_iconst (pc := 69) C dX7_frameNow_69 (i := (-1 : Int)) (by decide) ?_
          obtain ⟨k_78, hk_78, hw⟩ := jn_out hw
          have J_78 : ∀ (t1_78 : Int) (h_78 : AH), k_78 t1_78 h_78 → AW G p l e ({ frames := 5, cells := 0, slots := 0, locals := 114 } : Room) s m args below meth c 0 0 (MQ below (QG G (oI Q)) args s 0 0 (frA G)) 78 (eOf [(0, vR a0), (1, vI a1), (4, vI x4_50)]) [vI t1_78, vI x3_50] h_78 := by
            intro t1_78 h_78 hw
            rw [hk_78] at hw
            obtain ⟨hp9, hw⟩ := hw
            refine aw_iadd (pc := 78) C dX7_frameNow_78 hp9 ?_
            refine aw_nmI (fun x3_79 e9 => ?_)
            have hw := hw x3_79 e9
            refine aw_istore_n (pc := 79) C dX7_frameNow_79 rfl (by rw [hml]; decide) ?_
            obtain ⟨hp9, hw⟩ := hw
            refine aw_iincN (pc := 80) C dX7_frameNow_80 (k := 1) (by decide) rfl (by rw [hml]; decide) hp9 (fun x4_80 e9 => ?_)
            have hw := hw x4_80 e9
            refine aw_goto (pc := 83) (tgt := 50) C dX7_frameNow_83 (by decide) ?_
            obtain ⟨m9, hm9, hw⟩ := hw
            refine aw_sub [(0, vR a0), (1, vI a1), (3, vI x3_79), (4, vI x4_80)] ⟨rfl, rfl, rfl, rfl, trivial⟩ ?_
            exact ih_50 m9 hm9 _ _ _ hw
          refine aw_icmp_ne (pc := 70) (tgt := 77) C dX7_frameNow_70 (by decide) (fun hc9 => ?_) (fun hc9 => ?_)
          · have hw := hw.1 hc9
            refine aw_iconst (pc := 77) C dX7_frameNow_77 (i := (1 : Int)) (by decide) ?_
            refine aw_sub [(0, vR a0), (1, vI a1), (4, vI x4_50)] ⟨rfl, rfl, rfl, trivial⟩ ?_
            exact J_78 _ _ hw
          · have hw := hw.2 hc9
            refine aw_iconst (pc := 73) C dX7_frameNow_73 (i := (0 : Int)) (by decide) ?_
            refine aw_goto (pc := 74) (tgt := 78) C dX7_frameNow_74 (by decide) ?_
            refine aw_sub [(0, vR a0), (1, vI a1), (4, vI x4_50)] ⟨rfl, rfl, rfl, trivial⟩ ?_
            exact J_78 _ _ hw
      refine aw_sub [(0, vR a0), (1, vI a1), (3, vI (0 : Int)), (4, vI (0 : Int))] ⟨rfl, rfl, rfl, rfl, trivial⟩ ?_
      exact L_50 n9 _ _ _ hi9
  · have hw := hw.2 hc9
    refine aw_iload_n (pc := 7) C dX7_frameNow_7 rfl rfl ?_
    refine aw_aload_n (pc := 8) C dX7_frameNow_8 rfl rfl ?_
    obtain ⟨hp9, hw⟩ := hw
    refine aw_callV (pc := 9) (as := []) C ci7 (fun As hA => met_X7_firstMoving G l As a0 _ _ hA hw) tw977 tw979 (tbp 54 (n := 21) (by decide +kernel)) tw10 tw980 ⟨rfl, rfl⟩ ⟨rfl, by decide, by decide, pd_X7_firstMoving⟩ ⟨Nat.le_of_ble_eq_true rfl, Nat.le_of_ble_eq_true rfl⟩ ⟨Nat.zero_le _, Nat.zero_le _⟩ (Nat.le_of_ble_eq_true rfl) dX7_frameNow_9 rfl hp9 (fun v9 h9 hq9 => ?_)
    obtain ⟨r9, rfl, hw⟩ := hq9
    obtain ⟨hp9, hw⟩ := hw
    refine aw_isub (pc := 12) C dX7_frameNow_12 hp9 ?_
    refine aw_nmI (fun x4_13 e9 => ?_)
    have hw := hw x4_13 e9
    refine aw_istore (pc := 13) C dX7_frameNow_13 (by rw [hml]; decide) ?_
    refine aw_iload (pc := 15) C dX7_frameNow_15 rfl ?_
    refine aw_iconst (pc := 17) C dX7_frameNow_17 (i := (0 : Int)) (by decide) ?_
    refine aw_aload_n (pc := 18) C dX7_frameNow_18 rfl rfl ?_
    obtain ⟨hp9, hw⟩ := hw
    refine aw_getI (pc := 19) C (ci := 7) (k := 12) ci7 (by decide) tw804 dX7_frameNow_19 rfl hp9 ?_
    refine aw_iconst (pc := 22) C dX7_frameNow_22 (i := (1 : Int)) (by decide) ?_
    obtain ⟨hp9, hw⟩ := hw
    refine aw_isub (pc := 23) C dX7_frameNow_23 hp9 ?_
    refine aw_callS (pc := 24) (as := [vI x4_13, vI (0 : Int), vI ((hfI h9 a0 12) - (1 : Int))]) C (fun As hA => met_X7_within G l As x4_13 (0 : Int) ((hfI h9 a0 12) - (1 : Int)) _ _ hA hw) tw883 tw884 tw10 tw885 ⟨rfl, rfl⟩ ⟨by decide, by decide, pd_X7_within⟩ ⟨Nat.le_of_ble_eq_true rfl, Nat.le_of_ble_eq_true rfl⟩ ⟨Nat.zero_le _, Nat.zero_le _⟩ (Nat.le_of_ble_eq_true rfl) dX7_frameNow_24 rfl (fun v9 h24 hq9 => ?_)
    obtain ⟨r24, rfl, hw⟩ := hq9
    obtain ⟨k_41, hk_41, hw⟩ := jn_out hw
    have J_41 : ∀ (t0_41 : Int) (h_41 : AH), k_41 t0_41 h_41 → AW G p l e ({ frames := 5, cells := 0, slots := 0, locals := 114 } : Room) s m args below meth c 0 0 (MQ below (QG G (oI Q)) args s 0 0 (frA G)) 41 (eOf []) [vI t0_41] h_41 := by
      intro t0_41 h_41 hw
      rw [hk_41] at hw
      exact aw_iret (pc := 41) C hr dX7_frameNow_41 ⟨Nat.le_of_ble_eq_true rfl, Nat.le_of_ble_eq_true rfl⟩ ⟨_, rfl, hw⟩
    refine aw_if_eq (pc := 27) (tgt := 40) C dX7_frameNow_27 (by decide) (fun hc9 => ?_) (fun hc9 => ?_)
    · have hw := hw.1 hc9
      refine aw_iconst (pc := 40) C dX7_frameNow_40 (i := (0 : Int)) (by decide) ?_
      refine aw_sub [] trivial ?_
      exact J_41 _ _ hw
    · have hw := hw.2 hc9
      refine aw_aload_n (pc := 30) C dX7_frameNow_30 rfl rfl ?_
      obtain ⟨hp9, b31, hb9, hw⟩ := hw
      refine aw_getR (pc := 31) C (ci := 7) (k := 14) ci7 (by decide) tw806 dX7_frameNow_31 rfl hp9 hb9 ?_
      refine aw_iload (pc := 34) C dX7_frameNow_34 rfl ?_
      obtain ⟨⟨k9, hp9⟩, hw⟩ := hw
      refine aw_iald (pc := 36) C dX7_frameNow_36 hp9 ?_
      refine aw_goto (pc := 37) (tgt := 41) C dX7_frameNow_37 (by decide) ?_
      refine aw_sub [] trivial ?_
      exact J_41 _ _ hw
theorem dX7_frame_0 : decode cX7_frame 0 = .ok (.aload_n 0, 1) := by decide +kernel
theorem dX7_frame_1 : decode cX7_frame 1 = .ok (.invokevirtual 170, 3) := by decide +kernel
theorem dX7_frame_4 : decode cX7_frame 4 = .ok (.aload_n 0, 1) := by decide +kernel
theorem dX7_frame_5 : decode cX7_frame 5 = .ok (.aload_n 0, 1) := by decide +kernel
theorem dX7_frame_6 : decode cX7_frame 6 = .ok (.iload_n 1, 1) := by decide +kernel
theorem dX7_frame_7 : decode cX7_frame 7 = .ok (.invokevirtual 192, 3) := by decide +kernel
theorem dX7_frame_10 : decode cX7_frame 10 = .ok (.ifCond .ne 7, 3) := by decide +kernel
theorem dX7_frame_13 : decode cX7_frame 13 = .ok (.iconst 1, 1) := by decide +kernel
theorem dX7_frame_14 : decode cX7_frame 14 = .ok (.goto 17, 3) := by decide +kernel
theorem dX7_frame_17 : decode cX7_frame 17 = .ok (.iload_n 2, 1) := by decide +kernel
theorem dX7_frame_18 : decode cX7_frame 18 = .ok (.iconst 0, 1) := by decide +kernel
theorem dX7_frame_19 : decode cX7_frame 19 = .ok (.iconst 4, 1) := by decide +kernel
theorem dX7_frame_20 : decode cX7_frame 20 = .ok (.invokestatic 65, 3) := by decide +kernel
theorem dX7_frame_23 : decode cX7_frame 23 = .ok (.ifCond .eq 7, 3) := by decide +kernel
theorem dX7_frame_26 : decode cX7_frame 26 = .ok (.iconst 0, 1) := by decide +kernel
theorem dX7_frame_27 : decode cX7_frame 27 = .ok (.goto 4, 3) := by decide +kernel
theorem dX7_frame_30 : decode cX7_frame 30 = .ok (.iconst 2, 1) := by decide +kernel
theorem dX7_frame_31 : decode cX7_frame 31 = .ok (.putfield 61, 3) := by decide +kernel
theorem dX7_frame_34 : decode cX7_frame 34 = .ok (.aload_n 0, 1) := by decide +kernel
theorem dX7_frame_35 : decode cX7_frame 35 = .ok (.getfield 61, 3) := by decide +kernel
theorem dX7_frame_38 : decode cX7_frame 38 = .ok (.ifCond .le 7, 3) := by decide +kernel
theorem dX7_frame_41 : decode cX7_frame 41 = .ok (.iconst 0, 1) := by decide +kernel
theorem dX7_frame_42 : decode cX7_frame 42 = .ok (.goto 9, 3) := by decide +kernel
theorem dX7_frame_45 : decode cX7_frame 45 = .ok (.aload_n 0, 1) := by decide +kernel
theorem dX7_frame_46 : decode cX7_frame 46 = .ok (.iload_n 1, 1) := by decide +kernel
theorem dX7_frame_47 : decode cX7_frame 47 = .ok (.iload_n 2, 1) := by decide +kernel
theorem dX7_frame_48 : decode cX7_frame 48 = .ok (.invokevirtual 201, 3) := by decide +kernel
theorem dX7_frame_51 : decode cX7_frame 51 = .ok (.ireturn, 1) := by decide +kernel
theorem pd_X7_frame : (parseMethodDescriptor yX7_frame.desc).map (fun d => d.parameters.length) = some 2 := by decide +kernel
def w_X7_frame (zz : Nat → Nat) (a0 : Nat) (a1 : Int) (a2 : Int) (h : AH) (Q : Int → AH → Prop) : Prop := okA h a0 7 ∧ w_X7_lay zz a0 h (fun  (h1 : AH) => okA h1 a0 7 ∧ w_X7_isFrame zz a0 a1 h1 (fun (r7 : Int) (h7 : AH) => jn (fun (t1_31 : Int) (h_31 : AH) => okP h_31 a0 7 ∧ ∀ h31 : AH, h31 = sfI h_31 a0 0 t1_31 → okA h31 a0 7 ∧ jn (fun (t0_51 : Int) (h_51 : AH) => Q t0_51 h_51) (fun k_51 : Int → AH → Prop => (((hfI h31 a0 0) ≤ 0) → okA h31 a0 7 ∧ w_X7_frameNow zz a0 a1 a2 h31 (fun (r48 : Int) (h48 : AH) => k_51 r48 h48)) ∧ ((¬ ((hfI h31 a0 0) ≤ 0)) → k_51 (0 : Int) h31))) (fun k_31 : Int → AH → Prop => ((¬ r7 = 0) → w_X7_within zz a2 (0 : Int) (4 : Int) h7 (fun (r20 : Int) (h20 : AH) => ((r20 = 0) → k_31 (2 : Int) h20) ∧ ((¬ (r20 = 0)) → k_31 (0 : Int) h20))) ∧ ((r7 = 0) → k_31 (1 : Int) h7))))
set_option maxRecDepth 100000 in
set_option maxHeartbeats 4000000 in
theorem met_X7_frame (G : GG) (l : Launch) : ∀ (As : List Value) (a0 : Nat) (a1 : Int) (a2 : Int) (h : AH) (Q : Int → AH → Prop), As.map ab = List.map some ([vR a0, vI a1, vI a2] : List AV) → w_X7_frame G.2.2 a0 a1 a2 h Q → Met l yX7_frame (.code yX7_frame cX7_frame 3 (some .int) :: xTb) ({ frames := 6, cells := 0, slots := 0, locals := 138 } : Room) (PcA G As h) (QG G (oI Q)) 0 0 (frA G) := by
  intro As a0 a1 a2 h Q hA hw
  refine met_of hA (by decide) (Nat.le_of_ble_eq_true rfl) (fun p e s m args below meth c C hml hr hnm => ?_)
  unfold w_X7_frame at hw
  refine aw_aload_n (pc := 0) C dX7_frame_0 rfl rfl ?_
  obtain ⟨hp9, hw⟩ := hw
  refine aw_callV (pc := 1) (as := []) C ci7 (fun As hA => met_X7_lay G l As a0 _ _ hA hw) tw910 tw912 (tbp 38 (n := 21) (by decide +kernel)) tw10 tw913 ⟨rfl, rfl⟩ ⟨rfl, by decide, by decide, pd_X7_lay⟩ ⟨Nat.le_of_ble_eq_true rfl, Nat.le_of_ble_eq_true rfl⟩ ⟨Nat.zero_le _, Nat.zero_le _⟩ (Nat.le_of_ble_eq_true rfl) dX7_frame_1 rfl hp9 (fun v9 h1 hq9 => ?_)
  obtain ⟨rfl, hw⟩ := hq9
  refine aw_aload_n (pc := 4) C dX7_frame_4 rfl rfl ?_
  refine aw_aload_n (pc := 5) C dX7_frame_5 rfl rfl ?_
  refine aw_iload_n (pc := 6) C dX7_frame_6 rfl rfl ?_
  obtain ⟨hp9, hw⟩ := hw
  refine aw_callV (pc := 7) (as := [vI a1]) C ci7 (fun As hA => met_X7_isFrame G l As a0 a1 _ _ hA hw) tw1037 tw1039 (tbp 62 (n := 21) (by decide +kernel)) tw10 tw1040 ⟨rfl, rfl⟩ ⟨rfl, by decide, by decide, pd_X7_isFrame⟩ ⟨Nat.le_of_ble_eq_true rfl, Nat.le_of_ble_eq_true rfl⟩ ⟨Nat.zero_le _, Nat.zero_le _⟩ (Nat.le_of_ble_eq_true rfl) dX7_frame_7 rfl hp9 (fun v9 h7 hq9 => ?_)
  obtain ⟨r7, rfl, hw⟩ := hq9
  obtain ⟨k_31, hk_31, hw⟩ := jn_out hw
  have J_31 : ∀ (t1_31 : Int) (h_31 : AH), k_31 t1_31 h_31 → AW G p l e ({ frames := 6, cells := 0, slots := 0, locals := 138 } : Room) s m args below meth c 0 0 (MQ below (QG G (oI Q)) args s 0 0 (frA G)) 31 (eOf [(0, vR a0), (1, vI a1), (2, vI a2)]) [vI t1_31, vR a0] h_31 := by
    intro t1_31 h_31 hw
    rw [hk_31] at hw
    obtain ⟨hp9, hw⟩ := hw
    refine aw_putI (pc := 31) C (ci := 7) (k := 0) ci7 (by decide) tw792 (Or.inl rfl) dX7_frame_31 rfl hp9 (aw_nmH (fun h31 e9 => ?_))
    have hw := hw h31 e9
    refine aw_aload_n (pc := 34) C dX7_frame_34 rfl rfl ?_
    obtain ⟨hp9, hw⟩ := hw
    refine aw_getI (pc := 35) C (ci := 7) (k := 0) ci7 (by decide) tw792 dX7_frame_35 rfl hp9 ?_
    obtain ⟨k_51, hk_51, hw⟩ := jn_out hw
    have J_51 : ∀ (t0_51 : Int) (h_51 : AH), k_51 t0_51 h_51 → AW G p l e ({ frames := 6, cells := 0, slots := 0, locals := 138 } : Room) s m args below meth c 0 0 (MQ below (QG G (oI Q)) args s 0 0 (frA G)) 51 (eOf []) [vI t0_51] h_51 := by
      intro t0_51 h_51 hw
      rw [hk_51] at hw
      exact aw_iret (pc := 51) C hr dX7_frame_51 ⟨Nat.le_of_ble_eq_true rfl, Nat.le_of_ble_eq_true rfl⟩ ⟨_, rfl, hw⟩
    refine aw_if_le (pc := 38) (tgt := 45) C dX7_frame_38 (by decide) (fun hc9 => ?_) (fun hc9 => ?_)
    · have hw := hw.1 hc9
      refine aw_aload_n (pc := 45) C dX7_frame_45 rfl rfl ?_
      refine aw_iload_n (pc := 46) C dX7_frame_46 rfl rfl ?_
      refine aw_iload_n (pc := 47) C dX7_frame_47 rfl rfl ?_
      obtain ⟨hp9, hw⟩ := hw
      refine aw_callV (pc := 48) (as := [vI a1, vI a2]) C ci7 (fun As hA => met_X7_frameNow G l As a0 a1 a2 _ _ hA hw) tw1061 tw1063 (tbp 66 (n := 21) (by decide +kernel)) tw10 tw1064 ⟨rfl, rfl⟩ ⟨rfl, by decide, by decide, pd_X7_frameNow⟩ ⟨Nat.le_of_ble_eq_true rfl, Nat.le_of_ble_eq_true rfl⟩ ⟨Nat.zero_le _, Nat.zero_le _⟩ (Nat.le_of_ble_eq_true rfl) dX7_frame_48 rfl hp9 (fun v9 h48 hq9 => ?_)
      obtain ⟨r48, rfl, hw⟩ := hq9
      refine aw_sub [] trivial ?_
      exact J_51 _ _ hw
    · have hw := hw.2 hc9
      refine aw_iconst (pc := 41) C dX7_frame_41 (i := (0 : Int)) (by decide) ?_
      refine aw_goto (pc := 42) (tgt := 51) C dX7_frame_42 (by decide) ?_
      refine aw_sub [] trivial ?_
      exact J_51 _ _ hw
  refine aw_if_ne (pc := 10) (tgt := 17) C dX7_frame_10 (by decide) (fun hc9 => ?_) (fun hc9 => ?_)
  · have hw := hw.1 hc9
    refine aw_iload_n (pc := 17) C dX7_frame_17 rfl rfl ?_
    refine aw_iconst (pc := 18) C dX7_frame_18 (i := (0 : Int)) (by decide) ?_
    refine aw_iconst (pc := 19) C dX7_frame_19 (i := (4 : Int)) (by decide) ?_
    refine aw_callS (pc := 20) (as := [vI a2, vI (0 : Int), vI (4 : Int)]) C (fun As hA => met_X7_within G l As a2 (0 : Int) (4 : Int) _ _ hA hw) tw883 tw884 tw10 tw885 ⟨rfl, rfl⟩ ⟨by decide, by decide, pd_X7_within⟩ ⟨Nat.le_of_ble_eq_true rfl, Nat.le_of_ble_eq_true rfl⟩ ⟨Nat.zero_le _, Nat.zero_le _⟩ (Nat.le_of_ble_eq_true rfl) dX7_frame_20 rfl (fun v9 h20 hq9 => ?_)
    obtain ⟨r20, rfl, hw⟩ := hq9
    refine aw_if_eq (pc := 23) (tgt := 30) C dX7_frame_23 (by decide) (fun hc9 => ?_) (fun hc9 => ?_)
    · have hw := hw.1 hc9
      refine aw_iconst (pc := 30) C dX7_frame_30 (i := (2 : Int)) (by decide) ?_
      refine aw_sub [(0, vR a0), (1, vI a1), (2, vI a2)] ⟨rfl, rfl, rfl, trivial⟩ ?_
      exact J_31 _ _ hw
    · have hw := hw.2 hc9
      refine aw_iconst (pc := 26) C dX7_frame_26 (i := (0 : Int)) (by decide) ?_
      refine aw_goto (pc := 27) (tgt := 31) C dX7_frame_27 (by decide) ?_
      refine aw_sub [(0, vR a0), (1, vI a1), (2, vI a2)] ⟨rfl, rfl, rfl, trivial⟩ ?_
      exact J_31 _ _ hw
  · have hw := hw.2 hc9
    refine aw_iconst (pc := 13) C dX7_frame_13 (i := (1 : Int)) (by decide) ?_
    refine aw_goto (pc := 14) (tgt := 31) C dX7_frame_14 (by decide) ?_
    refine aw_sub [(0, vR a0), (1, vI a1), (2, vI a2)] ⟨rfl, rfl, rfl, trivial⟩ ?_
    exact J_31 _ _ hw
theorem dX7_sumOf_0 : decode cX7_sumOf 0 = .ok (.iconst 0, 1) := by decide +kernel
theorem dX7_sumOf_1 : decode cX7_sumOf 1 = .ok (.istore_n 2, 1) := by decide +kernel
theorem dX7_sumOf_2 : decode cX7_sumOf 2 = .ok (.iconst 0, 1) := by decide +kernel
theorem dX7_sumOf_3 : decode cX7_sumOf 3 = .ok (.istore_n 3, 1) := by decide +kernel
theorem dX7_sumOf_4 : decode cX7_sumOf 4 = .ok (.iload_n 3, 1) := by decide +kernel
theorem dX7_sumOf_5 : decode cX7_sumOf 5 = .ok (.aload_n 0, 1) := by decide +kernel
theorem dX7_sumOf_6 : decode cX7_sumOf 6 = .ok (.getfield 19, 3) := by decide +kernel
theorem dX7_sumOf_9 : decode cX7_sumOf 9 = .ok (.iconst 0, 1) := by decide +kernel
theorem dX7_sumOf_10 : decode cX7_sumOf 10 = .ok (.iaload, 1) := by decide +kernel
theorem dX7_sumOf_11 : decode cX7_sumOf 11 = .ok (.if_icmp .ge 70, 3) := by decide +kernel
theorem dX7_sumOf_14 : decode cX7_sumOf 14 = .ok (.aload_n 0, 1) := by decide +kernel
theorem dX7_sumOf_15 : decode cX7_sumOf 15 = .ok (.getfield 28, 3) := by decide +kernel
theorem dX7_sumOf_18 : decode cX7_sumOf 18 = .ok (.iload_n 3, 1) := by decide +kernel
theorem dX7_sumOf_19 : decode cX7_sumOf 19 = .ok (.iaload, 1) := by decide +kernel
theorem dX7_sumOf_20 : decode cX7_sumOf 20 = .ok (.iconst (-1), 1) := by decide +kernel
theorem dX7_sumOf_21 : decode cX7_sumOf 21 = .ok (.if_icmp .ne 7, 3) := by decide +kernel
theorem dX7_sumOf_24 : decode cX7_sumOf 24 = .ok (.iconst 0, 1) := by decide +kernel
theorem dX7_sumOf_25 : decode cX7_sumOf 25 = .ok (.goto 14, 3) := by decide +kernel
theorem dX7_sumOf_28 : decode cX7_sumOf 28 = .ok (.aload_n 0, 1) := by decide +kernel
theorem dX7_sumOf_29 : decode cX7_sumOf 29 = .ok (.iload_n 3, 1) := by decide +kernel
theorem dX7_sumOf_30 : decode cX7_sumOf 30 = .ok (.aload_n 0, 1) := by decide +kernel
theorem dX7_sumOf_31 : decode cX7_sumOf 31 = .ok (.getfield 28, 3) := by decide +kernel
theorem dX7_sumOf_34 : decode cX7_sumOf 34 = .ok (.iload_n 3, 1) := by decide +kernel
theorem dX7_sumOf_35 : decode cX7_sumOf 35 = .ok (.iaload, 1) := by decide +kernel
theorem dX7_sumOf_36 : decode cX7_sumOf 36 = .ok (.invokevirtual 84, 3) := by decide +kernel
theorem dX7_sumOf_39 : decode cX7_sumOf 39 = .ok (.istore 4, 2) := by decide +kernel
theorem dX7_sumOf_41 : decode cX7_sumOf 41 = .ok (.iload_n 2, 1) := by decide +kernel
theorem dX7_sumOf_42 : decode cX7_sumOf 42 = .ok (.iload_n 1, 1) := by decide +kernel
theorem dX7_sumOf_43 : decode cX7_sumOf 43 = .ok (.bipush 9, 2) := by decide +kernel
theorem dX7_sumOf_45 : decode cX7_sumOf 45 = .ok (.if_icmp .ne 8, 3) := by decide +kernel
theorem dX7_sumOf_48 : decode cX7_sumOf 48 = .ok (.iload 4, 2) := by decide +kernel
theorem dX7_sumOf_50 : decode cX7_sumOf 50 = .ok (.goto 23, 3) := by decide +kernel
theorem dX7_sumOf_53 : decode cX7_sumOf 53 = .ok (.iload_n 1, 1) := by decide +kernel
theorem dX7_sumOf_54 : decode cX7_sumOf 54 = .ok (.bipush 10, 2) := by decide +kernel
theorem dX7_sumOf_56 : decode cX7_sumOf 56 = .ok (.if_icmp .ne 11, 3) := by decide +kernel
theorem dX7_sumOf_59 : decode cX7_sumOf 59 = .ok (.aload_n 0, 1) := by decide +kernel
theorem dX7_sumOf_60 : decode cX7_sumOf 60 = .ok (.iload_n 3, 1) := by decide +kernel
theorem dX7_sumOf_61 : decode cX7_sumOf 61 = .ok (.invokevirtual 186, 3) := by decide +kernel
theorem dX7_sumOf_64 : decode cX7_sumOf 64 = .ok (.goto 9, 3) := by decide +kernel
theorem dX7_sumOf_67 : decode cX7_sumOf 67 = .ok (.aload_n 0, 1) := by decide +kernel
theorem dX7_sumOf_68 : decode cX7_sumOf 68 = .ok (.getfield 43, 3) := by decide +kernel
theorem dX7_sumOf_71 : decode cX7_sumOf 71 = .ok (.iload_n 3, 1) := by decide +kernel
theorem dX7_sumOf_72 : decode cX7_sumOf 72 = .ok (.iaload, 1) := by decide +kernel
theorem dX7_sumOf_73 : decode cX7_sumOf 73 = .ok (.iadd, 1) := by decide +kernel
theorem dX7_sumOf_74 : decode cX7_sumOf 74 = .ok (.istore_n 2, 1) := by decide +kernel
theorem dX7_sumOf_75 : decode cX7_sumOf 75 = .ok (.iinc 3 1, 3) := by decide +kernel
theorem dX7_sumOf_78 : decode cX7_sumOf 78 = .ok (.goto (-74), 3) := by decide +kernel
theorem dX7_sumOf_81 : decode cX7_sumOf 81 = .ok (.iload_n 2, 1) := by decide +kernel
theorem dX7_sumOf_82 : decode cX7_sumOf 82 = .ok (.ireturn, 1) := by decide +kernel
theorem pd_X7_sumOf : (parseMethodDescriptor yX7_sumOf.desc).map (fun d => d.parameters.length) = some 1 := by decide +kernel
def w_X7_sumOf (zz : Nat → Nat) (a0 : Nat) (a1 : Int) (h : AH) (Q : Int → AH → Prop) : Prop := ∃ I_4 : Nat → Int → Int → AH → Prop, (∃ n, I_4 n (0 : Int) (0 : Int) h) ∧ ∀ (n_4 : Nat) (x2_4 : Int) (x3_4 : Int) (h_4 : AH), I_4 n_4 x2_4 x3_4 h_4 → (okA h_4 a0 7 ∧ ∃ b6 : Nat, hfR h_4 a0 6 = some b6 ∧ okI h_4 b6 (0 : Int) ∧ (((haI h_4 b6 (0 : Int)) ≤ x3_4) → Q x2_4 h_4) ∧ ((¬ ((haI h_4 b6 (0 : Int)) ≤ x3_4)) → okA h_4 a0 7 ∧ ∃ b15 : Nat, hfR h_4 a0 9 = some b15 ∧ okI h_4 b15 x3_4 ∧ jn (fun (t0_39 : Int) (h_39 : AH) => jn (fun (t1_73 : Int) (h_73 : AH) => inR (x2_4 + t1_73) ∧ ∀ x2_74 : Int, x2_74 = (x2_4 + t1_73) → inR (x3_4 + 1) ∧ ∀ x3_75 : Int, x3_75 = (x3_4 + 1) → ∃ m, m < n_4 ∧ I_4 m x2_74 x3_75 h_73) (fun k_73 : Int → AH → Prop => ((¬ a1 = (9 : Int)) → ((¬ a1 = (10 : Int)) → okA h_39 a0 7 ∧ ∃ b68 : Nat, hfR h_39 a0 15 = some b68 ∧ okI h_39 b68 x3_4 ∧ k_73 (haI h_39 b68 x3_4) h_39) ∧ ((a1 = (10 : Int)) → okA h_39 a0 7 ∧ w_X7_steps zz a0 x3_4 h_39 (fun (r61 : Int) (h61 : AH) => k_73 r61 h61))) ∧ ((a1 = (9 : Int)) → k_73 t0_39 h_39))) (fun k_39 : Int → AH → Prop => ((¬ (haI h_4 b15 x3_4) = (-1 : Int)) → okA h_4 a0 7 ∧ ∃ b31 : Nat, hfR h_4 a0 9 = some b31 ∧ okI h_4 b31 x3_4 ∧ okA h_4 a0 7 ∧ w_X7_distance zz a0 x3_4 (haI h_4 b31 x3_4) h_4 (fun (r36 : Int) (h36 : AH) => k_39 r36 h36)) ∧ (((haI h_4 b15 x3_4) = (-1 : Int)) → k_39 (0 : Int) h_4))))
set_option maxRecDepth 100000 in
set_option maxHeartbeats 4000000 in
theorem met_X7_sumOf (G : GG) (l : Launch) : ∀ (As : List Value) (a0 : Nat) (a1 : Int) (h : AH) (Q : Int → AH → Prop), As.map ab = List.map some ([vR a0, vI a1] : List AV) → w_X7_sumOf G.2.2 a0 a1 h Q → Met l yX7_sumOf (.code yX7_sumOf cX7_sumOf 5 (some .int) :: xTb) ({ frames := 2, cells := 0, slots := 0, locals := 45 } : Room) (PcA G As h) (QG G (oI Q)) 0 0 (frA G) := by
  intro As a0 a1 h Q hA hw
  refine met_of hA (by decide) (Nat.le_of_ble_eq_true rfl) (fun p e s m args below meth c C hml hr hnm => ?_)
  unfold w_X7_sumOf at hw
  refine aw_iconst (pc := 0) C dX7_sumOf_0 (i := (0 : Int)) (by decide) ?_
  refine aw_istore_n (pc := 1) C dX7_sumOf_1 rfl (by rw [hml]; decide) ?_
  refine aw_iconst (pc := 2) C dX7_sumOf_2 (i := (0 : Int)) (by decide) ?_
  refine aw_istore_n (pc := 3) C dX7_sumOf_3 rfl (by rw [hml]; decide) ?_
  obtain ⟨I_4, ⟨n9, hi9⟩, hst9⟩ := hw
  have L_4 : ∀ (n_4 : Nat) (x2_4 : Int) (x3_4 : Int) (h_4 : AH), I_4 n_4 x2_4 x3_4 h_4 → AW G p l e ({ frames := 2, cells := 0, slots := 0, locals := 45 } : Room) s m args below meth c 0 0 (MQ below (QG G (oI Q)) args s 0 0 (frA G)) 4 (eOf [(0, vR a0), (1, vI a1), (2, vI x2_4), (3, vI x3_4)]) [] h_4 := by
    intro n_4
    induction n_4 using Nat.strongRecOn with
    | _ n_4 ih_4 =>
    intro x2_4 x3_4 h_4 hi9
    have hw := hst9 n_4 x2_4 x3_4 h_4 hi9
    refine aw_iload_n (pc := 4) C dX7_sumOf_4 rfl rfl ?_
    refine aw_aload_n (pc := 5) C dX7_sumOf_5 rfl rfl ?_
    obtain ⟨hp9, b6, hb9, hw⟩ := hw
    refine aw_getR (pc := 6) C (ci := 7) (k := 6) ci7 (by decide) tw798 dX7_sumOf_6 rfl hp9 hb9 ?_
    refine aw_iconst (pc := 9) C dX7_sumOf_9 (i := (0 : Int)) (by decide) ?_
    obtain ⟨⟨k9, hp9⟩, hw⟩ := hw
    refine aw_iald (pc := 10) C dX7_sumOf_10 hp9 ?_
    refine aw_icmp_ge (pc := 11) (tgt := 81) C dX7_sumOf_11 (by decide) (fun hc9 => ?_) (fun hc9 => ?_)
    · have hw := hw.1 hc9
      refine aw_iload_n (pc := 81) C dX7_sumOf_81 rfl rfl ?_
      exact aw_iret (pc := 82) C hr dX7_sumOf_82 ⟨Nat.le_of_ble_eq_true rfl, Nat.le_of_ble_eq_true rfl⟩ ⟨_, rfl, hw⟩
    · have hw := hw.2 hc9
      refine aw_aload_n (pc := 14) C dX7_sumOf_14 rfl rfl ?_
      obtain ⟨hp9, b15, hb9, hw⟩ := hw
      refine aw_getR (pc := 15) C (ci := 7) (k := 9) ci7 (by decide) tw801 dX7_sumOf_15 rfl hp9 hb9 ?_
      refine aw_iload_n (pc := 18) C dX7_sumOf_18 rfl rfl ?_
      obtain ⟨⟨k9, hp9⟩, hw⟩ := hw
      refine aw_iald (pc := 19) C dX7_sumOf_19 hp9 ?_
      refine aw_iconst (pc := 20) C dX7_sumOf_20 (i := (-1 : Int)) (by decide) ?_
      obtain ⟨k_39, hk_39, hw⟩ := jn_out hw
      have J_39 : ∀ (t0_39 : Int) (h_39 : AH), k_39 t0_39 h_39 → AW G p l e ({ frames := 2, cells := 0, slots := 0, locals := 45 } : Room) s m args below meth c 0 0 (MQ below (QG G (oI Q)) args s 0 0 (frA G)) 39 (eOf [(0, vR a0), (1, vI a1), (2, vI x2_4), (3, vI x3_4)]) [vI t0_39] h_39 := by
        intro t0_39 h_39 hw
        rw [hk_39] at hw
        refine aw_istore (pc := 39) C dX7_sumOf_39 (by rw [hml]; decide) ?_
        refine aw_iload_n (pc := 41) C dX7_sumOf_41 rfl rfl ?_
        refine aw_iload_n (pc := 42) C dX7_sumOf_42 rfl rfl ?_
        refine aw_bipush (pc := 43) C dX7_sumOf_43 (i := (9 : Int)) (by decide) ?_
        obtain ⟨k_73, hk_73, hw⟩ := jn_out hw
        have J_73 : ∀ (t1_73 : Int) (h_73 : AH), k_73 t1_73 h_73 → AW G p l e ({ frames := 2, cells := 0, slots := 0, locals := 45 } : Room) s m args below meth c 0 0 (MQ below (QG G (oI Q)) args s 0 0 (frA G)) 73 (eOf [(0, vR a0), (1, vI a1), (3, vI x3_4)]) [vI t1_73, vI x2_4] h_73 := by
          intro t1_73 h_73 hw
          rw [hk_73] at hw
          obtain ⟨hp9, hw⟩ := hw
          refine aw_iadd (pc := 73) C dX7_sumOf_73 hp9 ?_
          refine aw_nmI (fun x2_74 e9 => ?_)
          have hw := hw x2_74 e9
          refine aw_istore_n (pc := 74) C dX7_sumOf_74 rfl (by rw [hml]; decide) ?_
          obtain ⟨hp9, hw⟩ := hw
          refine aw_iincN (pc := 75) C dX7_sumOf_75 (k := 1) (by decide) rfl (by rw [hml]; decide) hp9 (fun x3_75 e9 => ?_)
          have hw := hw x3_75 e9
          refine aw_goto (pc := 78) (tgt := 4) C dX7_sumOf_78 (by decide) ?_
          obtain ⟨m9, hm9, hw⟩ := hw
          refine aw_sub [(0, vR a0), (1, vI a1), (2, vI x2_74), (3, vI x3_75)] ⟨rfl, rfl, rfl, rfl, trivial⟩ ?_
          exact ih_4 m9 hm9 _ _ _ hw
        refine aw_icmp_ne (pc := 45) (tgt := 53) C dX7_sumOf_45 (by decide) (fun hc9 => ?_) (fun hc9 => ?_)
        · have hw := hw.1 hc9
          refine aw_iload_n (pc := 53) C dX7_sumOf_53 rfl rfl ?_
          refine aw_bipush (pc := 54) C dX7_sumOf_54 (i := (10 : Int)) (by decide) ?_
          refine aw_icmp_ne (pc := 56) (tgt := 67) C dX7_sumOf_56 (by decide) (fun hc9 => ?_) (fun hc9 => ?_)
          · have hw := hw.1 hc9
            refine aw_aload_n (pc := 67) C dX7_sumOf_67 rfl rfl ?_
            obtain ⟨hp9, b68, hb9, hw⟩ := hw
            refine aw_getR (pc := 68) C (ci := 7) (k := 15) ci7 (by decide) tw807 dX7_sumOf_68 rfl hp9 hb9 ?_
            refine aw_iload_n (pc := 71) C dX7_sumOf_71 rfl rfl ?_
            obtain ⟨⟨k9, hp9⟩, hw⟩ := hw
            refine aw_iald (pc := 72) C dX7_sumOf_72 hp9 ?_
            refine aw_sub [(0, vR a0), (1, vI a1), (3, vI x3_4)] ⟨rfl, rfl, rfl, trivial⟩ ?_
            exact J_73 _ _ hw
          · have hw := hw.2 hc9
            refine aw_aload_n (pc := 59) C dX7_sumOf_59 rfl rfl ?_
            refine aw_iload_n (pc := 60) C dX7_sumOf_60 rfl rfl ?_
            obtain ⟨hp9, hw⟩ := hw
            refine aw_callV (pc := 61) (as := [vI x3_4]) C ci7 (fun As hA => met_X7_steps G l As a0 x3_4 _ _ hA hw) tw1025 tw1027 (tbp 60 (n := 21) (by decide +kernel)) tw10 tw1028 ⟨rfl, rfl⟩ ⟨rfl, by decide, by decide, pd_X7_steps⟩ ⟨Nat.le_of_ble_eq_true rfl, Nat.le_of_ble_eq_true rfl⟩ ⟨Nat.zero_le _, Nat.zero_le _⟩ (Nat.le_of_ble_eq_true rfl) dX7_sumOf_61 rfl hp9 (fun v9 h61 hq9 => ?_)
            obtain ⟨r61, rfl, hw⟩ := hq9
            refine aw_goto (pc := 64) (tgt := 73) C dX7_sumOf_64 (by decide) ?_
            refine aw_sub [(0, vR a0), (1, vI a1), (3, vI x3_4)] ⟨rfl, rfl, rfl, trivial⟩ ?_
            exact J_73 _ _ hw
        · have hw := hw.2 hc9
          refine aw_iload (pc := 48) C dX7_sumOf_48 rfl ?_
          refine aw_goto (pc := 50) (tgt := 73) C dX7_sumOf_50 (by decide) ?_
          refine aw_sub [(0, vR a0), (1, vI a1), (3, vI x3_4)] ⟨rfl, rfl, rfl, trivial⟩ ?_
          exact J_73 _ _ hw
      refine aw_icmp_ne (pc := 21) (tgt := 28) C dX7_sumOf_21 (by decide) (fun hc9 => ?_) (fun hc9 => ?_)
      · have hw := hw.1 hc9
        refine aw_aload_n (pc := 28) C dX7_sumOf_28 rfl rfl ?_
        refine aw_iload_n (pc := 29) C dX7_sumOf_29 rfl rfl ?_
        refine aw_aload_n (pc := 30) C dX7_sumOf_30 rfl rfl ?_
        obtain ⟨hp9, b31, hb9, hw⟩ := hw
        refine aw_getR (pc := 31) C (ci := 7) (k := 9) ci7 (by decide) tw801 dX7_sumOf_31 rfl hp9 hb9 ?_
        refine aw_iload_n (pc := 34) C dX7_sumOf_34 rfl rfl ?_
        obtain ⟨⟨k9, hp9⟩, hw⟩ := hw
        refine aw_iald (pc := 35) C dX7_sumOf_35 hp9 ?_
        obtain ⟨hp9, hw⟩ := hw
        refine aw_callV (pc := 36) (as := [vI x3_4, vI (haI h_4 b31 x3_4)]) C ci7 (fun As hA => met_X7_distance G l As a0 x3_4 (haI h_4 b31 x3_4) _ _ hA hw) tw938 tw940 (tbp 45 (n := 21) (by decide +kernel)) tw10 tw941 ⟨rfl, rfl⟩ ⟨rfl, by decide, by decide, pd_X7_distance⟩ ⟨Nat.le_of_ble_eq_true rfl, Nat.le_of_ble_eq_true rfl⟩ ⟨Nat.zero_le _, Nat.zero_le _⟩ (Nat.le_of_ble_eq_true rfl) dX7_sumOf_36 rfl hp9 (fun v9 h36 hq9 => ?_)
        obtain ⟨r36, rfl, hw⟩ := hq9
        refine aw_sub [(0, vR a0), (1, vI a1), (2, vI x2_4), (3, vI x3_4)] ⟨rfl, rfl, rfl, rfl, trivial⟩ ?_
        exact J_39 _ _ hw
      · have hw := hw.2 hc9
        refine aw_iconst (pc := 24) C dX7_sumOf_24 (i := (0 : Int)) (by decide) ?_
        refine aw_goto (pc := 25) (tgt := 39) C dX7_sumOf_25 (by decide) ?_
        refine aw_sub [(0, vR a0), (1, vI a1), (2, vI x2_4), (3, vI x3_4)] ⟨rfl, rfl, rfl, rfl, trivial⟩ ?_
        exact J_39 _ _ hw
  refine aw_sub [(0, vR a0), (1, vI a1), (2, vI (0 : Int)), (3, vI (0 : Int))] ⟨rfl, rfl, rfl, rfl, trivial⟩ ?_
  exact L_4 n9 _ _ _ hi9
theorem dX7_counted_0 : decode cX7_counted 0 = .ok (.iload_n 1, 1) := by decide +kernel
theorem dX7_counted_1 : decode cX7_counted 1 = .ok (.tableswitch 107 0 12 #[67, 72, 72, 81, 81, 81, 81, 90, 97, 107, 107, 107, 102], 67) := by decide +kernel
theorem dX7_counted_68 : decode cX7_counted 68 = .ok (.aload_n 0, 1) := by decide +kernel
theorem dX7_counted_69 : decode cX7_counted 69 = .ok (.invokevirtual 173, 3) := by decide +kernel
theorem dX7_counted_72 : decode cX7_counted 72 = .ok (.ireturn, 1) := by decide +kernel
theorem dX7_counted_73 : decode cX7_counted 73 = .ok (.aload_n 0, 1) := by decide +kernel
theorem dX7_counted_74 : decode cX7_counted 74 = .ok (.getfield 19, 3) := by decide +kernel
theorem dX7_counted_77 : decode cX7_counted 77 = .ok (.iload_n 1, 1) := by decide +kernel
theorem dX7_counted_78 : decode cX7_counted 78 = .ok (.iconst 1, 1) := by decide +kernel
theorem dX7_counted_79 : decode cX7_counted 79 = .ok (.isub, 1) := by decide +kernel
theorem dX7_counted_80 : decode cX7_counted 80 = .ok (.iaload, 1) := by decide +kernel
theorem dX7_counted_81 : decode cX7_counted 81 = .ok (.ireturn, 1) := by decide +kernel
theorem dX7_counted_82 : decode cX7_counted 82 = .ok (.aload_n 0, 1) := by decide +kernel
theorem dX7_counted_83 : decode cX7_counted 83 = .ok (.iconst 0, 1) := by decide +kernel
theorem dX7_counted_84 : decode cX7_counted 84 = .ok (.iload_n 1, 1) := by decide +kernel
theorem dX7_counted_85 : decode cX7_counted 85 = .ok (.iconst 2, 1) := by decide +kernel
theorem dX7_counted_86 : decode cX7_counted 86 = .ok (.isub, 1) := by decide +kernel
theorem dX7_counted_87 : decode cX7_counted 87 = .ok (.invokevirtual 98, 3) := by decide +kernel
theorem dX7_counted_90 : decode cX7_counted 90 = .ok (.ireturn, 1) := by decide +kernel
theorem dX7_counted_91 : decode cX7_counted 91 = .ok (.aload_n 0, 1) := by decide +kernel
theorem dX7_counted_92 : decode cX7_counted 92 = .ok (.iconst 1, 1) := by decide +kernel
theorem dX7_counted_93 : decode cX7_counted 93 = .ok (.iconst 5, 1) := by decide +kernel
theorem dX7_counted_94 : decode cX7_counted 94 = .ok (.invokevirtual 98, 3) := by decide +kernel
theorem dX7_counted_97 : decode cX7_counted 97 = .ok (.ireturn, 1) := by decide +kernel
theorem dX7_counted_98 : decode cX7_counted 98 = .ok (.aload_n 0, 1) := by decide +kernel
theorem dX7_counted_99 : decode cX7_counted 99 = .ok (.getfield 101, 3) := by decide +kernel
theorem dX7_counted_102 : decode cX7_counted 102 = .ok (.ireturn, 1) := by decide +kernel
theorem dX7_counted_103 : decode cX7_counted 103 = .ok (.aload_n 0, 1) := by decide +kernel
theorem dX7_counted_104 : decode cX7_counted 104 = .ok (.getfield 143, 3) := by decide +kernel
theorem dX7_counted_107 : decode cX7_counted 107 = .ok (.ireturn, 1) := by decide +kernel
theorem dX7_counted_108 : decode cX7_counted 108 = .ok (.aload_n 0, 1) := by decide +kernel
theorem dX7_counted_109 : decode cX7_counted 109 = .ok (.iload_n 1, 1) := by decide +kernel
theorem dX7_counted_110 : decode cX7_counted 110 = .ok (.invokevirtual 204, 3) := by decide +kernel
theorem dX7_counted_113 : decode cX7_counted 113 = .ok (.ireturn, 1) := by decide +kernel
theorem pd_X7_counted : (parseMethodDescriptor yX7_counted.desc).map (fun d => d.parameters.length) = some 1 := by decide +kernel
def w_X7_counted (zz : Nat → Nat) (a0 : Nat) (a1 : Int) (h : AH) (Q : Int → AH → Prop) : Prop := (a1 = 0 → okA h a0 7 ∧ w_X7_frames zz a0 h (fun (r69 : Int) (h69 : AH) => Q r69 h69)) ∧ (a1 = 1 → okA h a0 7 ∧ ∃ b74 : Nat, hfR h a0 6 = some b74 ∧ inR (a1 - (1 : Int)) ∧ okI h b74 (a1 - (1 : Int)) ∧ Q (haI h b74 (a1 - (1 : Int))) h) ∧ (a1 = 2 → okA h a0 7 ∧ ∃ b74 : Nat, hfR h a0 6 = some b74 ∧ inR (a1 - (1 : Int)) ∧ okI h b74 (a1 - (1 : Int)) ∧ Q (haI h b74 (a1 - (1 : Int))) h) ∧ (a1 = 3 → inR (a1 - (2 : Int)) ∧ okA h a0 7 ∧ w_X7_ofKind zz a0 (0 : Int) (a1 - (2 : Int)) h (fun (r87 : Int) (h87 : AH) => Q r87 h87)) ∧ (a1 = 4 → inR (a1 - (2 : Int)) ∧ okA h a0 7 ∧ w_X7_ofKind zz a0 (0 : Int) (a1 - (2 : Int)) h (fun (r87 : Int) (h87 : AH) => Q r87 h87)) ∧ (a1 = 5 → inR (a1 - (2 : Int)) ∧ okA h a0 7 ∧ w_X7_ofKind zz a0 (0 : Int) (a1 - (2 : Int)) h (fun (r87 : Int) (h87 : AH) => Q r87 h87)) ∧ (a1 = 6 → inR (a1 - (2 : Int)) ∧ okA h a0 7 ∧ w_X7_ofKind zz a0 (0 : Int) (a1 - (2 : Int)) h (fun (r87 : Int) (h87 : AH) => Q r87 h87)) ∧ (a1 = 7 → okA h a0 7 ∧ w_X7_ofKind zz a0 (1 : Int) (5 : Int) h (fun (r94 : Int) (h94 : AH) => Q r94 h94)) ∧ (a1 = 8 → okA h a0 7 ∧ Q (hfI h a0 12) h) ∧ (a1 = 9 → okA h a0 7 ∧ w_X7_sumOf zz a0 a1 h (fun (r110 : Int) (h110 : AH) => Q r110 h110)) ∧ (a1 = 10 → okA h a0 7 ∧ w_X7_sumOf zz a0 a1 h (fun (r110 : Int) (h110 : AH) => Q r110 h110)) ∧ (a1 = 11 → okA h a0 7 ∧ w_X7_sumOf zz a0 a1 h (fun (r110 : Int) (h110 : AH) => Q r110 h110)) ∧ (a1 = 12 → okA h a0 7 ∧ Q (hfI h a0 2) h) ∧ ((a1 < 0 ∨ 12 < a1) → okA h a0 7 ∧ w_X7_sumOf zz a0 a1 h (fun (r110 : Int) (h110 : AH) => Q r110 h110))
set_option maxRecDepth 100000 in
set_option maxHeartbeats 4000000 in
theorem met_X7_counted (G : GG) (l : Launch) : ∀ (As : List Value) (a0 : Nat) (a1 : Int) (h : AH) (Q : Int → AH → Prop), As.map ab = List.map some ([vR a0, vI a1] : List AV) → w_X7_counted G.2.2 a0 a1 h Q → Met l yX7_counted (.code yX7_counted cX7_counted 2 (some .int) :: xTb) ({ frames := 3, cells := 0, slots := 0, locals := 69 } : Room) (PcA G As h) (QG G (oI Q)) 0 0 (frA G) := by
  intro As a0 a1 h Q hA hw
  refine met_of hA (by decide) (Nat.le_of_ble_eq_true rfl) (fun p e s m args below meth c C hml hr hnm => ?_)
  unfold w_X7_counted at hw
  refine aw_iload_n (pc := 0) C dX7_counted_0 rfl rfl ?_
  have hcs9 : a1 = 0 ∨ a1 = 1 ∨ a1 = 2 ∨ a1 = 3 ∨ a1 = 4 ∨ a1 = 5 ∨ a1 = 6 ∨ a1 = 7 ∨ a1 = 8 ∨ a1 = 9 ∨ a1 = 10 ∨ a1 = 11 ∨ a1 = 12 ∨ (a1 < 0 ∨ 12 < a1) := by omega
  rcases hcs9 with hc9 | hc9 | hc9 | hc9 | hc9 | hc9 | hc9 | hc9 | hc9 | hc9 | hc9 | hc9 | hc9 | hc9
  · have hw := hw.1 hc9
    refine aw_tableIn (pc := 1) (off := 67) (tgt := 68) C dX7_counted_1 (by omega) (by omega) (by rw [hc9]; rfl) (by decide) ?_
    refine aw_aload_n (pc := 68) C dX7_counted_68 rfl rfl ?_
    obtain ⟨hp9, hw⟩ := hw
    refine aw_callV (pc := 69) (as := []) C ci7 (fun As hA => met_X7_frames G l As a0 _ _ hA hw) tw985 tw987 (tbp 56 (n := 21) (by decide +kernel)) tw10 tw988 ⟨rfl, rfl⟩ ⟨rfl, by decide, by decide, pd_X7_frames⟩ ⟨Nat.le_of_ble_eq_true rfl, Nat.le_of_ble_eq_true rfl⟩ ⟨Nat.zero_le _, Nat.zero_le _⟩ (Nat.le_of_ble_eq_true rfl) dX7_counted_69 rfl hp9 (fun v9 h69 hq9 => ?_)
    obtain ⟨r69, rfl, hw⟩ := hq9
    exact aw_iret (pc := 72) C hr dX7_counted_72 ⟨Nat.le_of_ble_eq_true rfl, Nat.le_of_ble_eq_true rfl⟩ ⟨_, rfl, hw⟩
  · have hw := hw.2.1 hc9
    refine aw_tableIn (pc := 1) (off := 72) (tgt := 73) C dX7_counted_1 (by omega) (by omega) (by rw [hc9]; rfl) (by decide) ?_
    refine aw_aload_n (pc := 73) C dX7_counted_73 rfl rfl ?_
    obtain ⟨hp9, b74, hb9, hw⟩ := hw
    refine aw_getR (pc := 74) C (ci := 7) (k := 6) ci7 (by decide) tw798 dX7_counted_74 rfl hp9 hb9 ?_
    refine aw_iload_n (pc := 77) C dX7_counted_77 rfl rfl ?_
    refine aw_iconst (pc := 78) C dX7_counted_78 (i := (1 : Int)) (by decide) ?_
    obtain ⟨hp9, hw⟩ := hw
    refine aw_isub (pc := 79) C dX7_counted_79 hp9 ?_
    obtain ⟨⟨k9, hp9⟩, hw⟩ := hw
    refine aw_iald (pc := 80) C dX7_counted_80 hp9 ?_
    exact aw_iret (pc := 81) C hr dX7_counted_81 ⟨Nat.le_of_ble_eq_true rfl, Nat.le_of_ble_eq_true rfl⟩ ⟨_, rfl, hw⟩
  · have hw := hw.2.2.1 hc9
    refine aw_tableIn (pc := 1) (off := 72) (tgt := 73) C dX7_counted_1 (by omega) (by omega) (by rw [hc9]; rfl) (by decide) ?_
    refine aw_aload_n (pc := 73) C dX7_counted_73 rfl rfl ?_
    obtain ⟨hp9, b74, hb9, hw⟩ := hw
    refine aw_getR (pc := 74) C (ci := 7) (k := 6) ci7 (by decide) tw798 dX7_counted_74 rfl hp9 hb9 ?_
    refine aw_iload_n (pc := 77) C dX7_counted_77 rfl rfl ?_
    refine aw_iconst (pc := 78) C dX7_counted_78 (i := (1 : Int)) (by decide) ?_
    obtain ⟨hp9, hw⟩ := hw
    refine aw_isub (pc := 79) C dX7_counted_79 hp9 ?_
    obtain ⟨⟨k9, hp9⟩, hw⟩ := hw
    refine aw_iald (pc := 80) C dX7_counted_80 hp9 ?_
    exact aw_iret (pc := 81) C hr dX7_counted_81 ⟨Nat.le_of_ble_eq_true rfl, Nat.le_of_ble_eq_true rfl⟩ ⟨_, rfl, hw⟩
  · have hw := hw.2.2.2.1 hc9
    refine aw_tableIn (pc := 1) (off := 81) (tgt := 82) C dX7_counted_1 (by omega) (by omega) (by rw [hc9]; rfl) (by decide) ?_
    refine aw_aload_n (pc := 82) C dX7_counted_82 rfl rfl ?_
    refine aw_iconst (pc := 83) C dX7_counted_83 (i := (0 : Int)) (by decide) ?_
    refine aw_iload_n (pc := 84) C dX7_counted_84 rfl rfl ?_
    refine aw_iconst (pc := 85) C dX7_counted_85 (i := (2 : Int)) (by decide) ?_
    obtain ⟨hp9, hw⟩ := hw
    refine aw_isub (pc := 86) C dX7_counted_86 hp9 ?_
    obtain ⟨hp9, hw⟩ := hw
    refine aw_callV (pc := 87) (as := [vI (0 : Int), vI (a1 - (2 : Int))]) C ci7 (fun As hA => met_X7_ofKind G l As a0 (0 : Int) (a1 - (2 : Int)) _ _ hA hw) tw953 tw955 (tbp 48 (n := 21) (by decide +kernel)) tw10 tw956 ⟨rfl, rfl⟩ ⟨rfl, by decide, by decide, pd_X7_ofKind⟩ ⟨Nat.le_of_ble_eq_true rfl, Nat.le_of_ble_eq_true rfl⟩ ⟨Nat.zero_le _, Nat.zero_le _⟩ (Nat.le_of_ble_eq_true rfl) dX7_counted_87 rfl hp9 (fun v9 h87 hq9 => ?_)
    obtain ⟨r87, rfl, hw⟩ := hq9
    exact aw_iret (pc := 90) C hr dX7_counted_90 ⟨Nat.le_of_ble_eq_true rfl, Nat.le_of_ble_eq_true rfl⟩ ⟨_, rfl, hw⟩
  · have hw := hw.2.2.2.2.1 hc9
    refine aw_tableIn (pc := 1) (off := 81) (tgt := 82) C dX7_counted_1 (by omega) (by omega) (by rw [hc9]; rfl) (by decide) ?_
    refine aw_aload_n (pc := 82) C dX7_counted_82 rfl rfl ?_
    refine aw_iconst (pc := 83) C dX7_counted_83 (i := (0 : Int)) (by decide) ?_
    refine aw_iload_n (pc := 84) C dX7_counted_84 rfl rfl ?_
    refine aw_iconst (pc := 85) C dX7_counted_85 (i := (2 : Int)) (by decide) ?_
    obtain ⟨hp9, hw⟩ := hw
    refine aw_isub (pc := 86) C dX7_counted_86 hp9 ?_
    obtain ⟨hp9, hw⟩ := hw
    refine aw_callV (pc := 87) (as := [vI (0 : Int), vI (a1 - (2 : Int))]) C ci7 (fun As hA => met_X7_ofKind G l As a0 (0 : Int) (a1 - (2 : Int)) _ _ hA hw) tw953 tw955 (tbp 48 (n := 21) (by decide +kernel)) tw10 tw956 ⟨rfl, rfl⟩ ⟨rfl, by decide, by decide, pd_X7_ofKind⟩ ⟨Nat.le_of_ble_eq_true rfl, Nat.le_of_ble_eq_true rfl⟩ ⟨Nat.zero_le _, Nat.zero_le _⟩ (Nat.le_of_ble_eq_true rfl) dX7_counted_87 rfl hp9 (fun v9 h87 hq9 => ?_)
    obtain ⟨r87, rfl, hw⟩ := hq9
    exact aw_iret (pc := 90) C hr dX7_counted_90 ⟨Nat.le_of_ble_eq_true rfl, Nat.le_of_ble_eq_true rfl⟩ ⟨_, rfl, hw⟩
  · have hw := hw.2.2.2.2.2.1 hc9
    refine aw_tableIn (pc := 1) (off := 81) (tgt := 82) C dX7_counted_1 (by omega) (by omega) (by rw [hc9]; rfl) (by decide) ?_
    refine aw_aload_n (pc := 82) C dX7_counted_82 rfl rfl ?_
    refine aw_iconst (pc := 83) C dX7_counted_83 (i := (0 : Int)) (by decide) ?_
    refine aw_iload_n (pc := 84) C dX7_counted_84 rfl rfl ?_
    refine aw_iconst (pc := 85) C dX7_counted_85 (i := (2 : Int)) (by decide) ?_
    obtain ⟨hp9, hw⟩ := hw
    refine aw_isub (pc := 86) C dX7_counted_86 hp9 ?_
    obtain ⟨hp9, hw⟩ := hw
    refine aw_callV (pc := 87) (as := [vI (0 : Int), vI (a1 - (2 : Int))]) C ci7 (fun As hA => met_X7_ofKind G l As a0 (0 : Int) (a1 - (2 : Int)) _ _ hA hw) tw953 tw955 (tbp 48 (n := 21) (by decide +kernel)) tw10 tw956 ⟨rfl, rfl⟩ ⟨rfl, by decide, by decide, pd_X7_ofKind⟩ ⟨Nat.le_of_ble_eq_true rfl, Nat.le_of_ble_eq_true rfl⟩ ⟨Nat.zero_le _, Nat.zero_le _⟩ (Nat.le_of_ble_eq_true rfl) dX7_counted_87 rfl hp9 (fun v9 h87 hq9 => ?_)
    obtain ⟨r87, rfl, hw⟩ := hq9
    exact aw_iret (pc := 90) C hr dX7_counted_90 ⟨Nat.le_of_ble_eq_true rfl, Nat.le_of_ble_eq_true rfl⟩ ⟨_, rfl, hw⟩
  · have hw := hw.2.2.2.2.2.2.1 hc9
    refine aw_tableIn (pc := 1) (off := 81) (tgt := 82) C dX7_counted_1 (by omega) (by omega) (by rw [hc9]; rfl) (by decide) ?_
    refine aw_aload_n (pc := 82) C dX7_counted_82 rfl rfl ?_
    refine aw_iconst (pc := 83) C dX7_counted_83 (i := (0 : Int)) (by decide) ?_
    refine aw_iload_n (pc := 84) C dX7_counted_84 rfl rfl ?_
    refine aw_iconst (pc := 85) C dX7_counted_85 (i := (2 : Int)) (by decide) ?_
    obtain ⟨hp9, hw⟩ := hw
    refine aw_isub (pc := 86) C dX7_counted_86 hp9 ?_
    obtain ⟨hp9, hw⟩ := hw
    refine aw_callV (pc := 87) (as := [vI (0 : Int), vI (a1 - (2 : Int))]) C ci7 (fun As hA => met_X7_ofKind G l As a0 (0 : Int) (a1 - (2 : Int)) _ _ hA hw) tw953 tw955 (tbp 48 (n := 21) (by decide +kernel)) tw10 tw956 ⟨rfl, rfl⟩ ⟨rfl, by decide, by decide, pd_X7_ofKind⟩ ⟨Nat.le_of_ble_eq_true rfl, Nat.le_of_ble_eq_true rfl⟩ ⟨Nat.zero_le _, Nat.zero_le _⟩ (Nat.le_of_ble_eq_true rfl) dX7_counted_87 rfl hp9 (fun v9 h87 hq9 => ?_)
    obtain ⟨r87, rfl, hw⟩ := hq9
    exact aw_iret (pc := 90) C hr dX7_counted_90 ⟨Nat.le_of_ble_eq_true rfl, Nat.le_of_ble_eq_true rfl⟩ ⟨_, rfl, hw⟩
  · have hw := hw.2.2.2.2.2.2.2.1 hc9
    refine aw_tableIn (pc := 1) (off := 90) (tgt := 91) C dX7_counted_1 (by omega) (by omega) (by rw [hc9]; rfl) (by decide) ?_
    refine aw_aload_n (pc := 91) C dX7_counted_91 rfl rfl ?_
    refine aw_iconst (pc := 92) C dX7_counted_92 (i := (1 : Int)) (by decide) ?_
    refine aw_iconst (pc := 93) C dX7_counted_93 (i := (5 : Int)) (by decide) ?_
    obtain ⟨hp9, hw⟩ := hw
    refine aw_callV (pc := 94) (as := [vI (1 : Int), vI (5 : Int)]) C ci7 (fun As hA => met_X7_ofKind G l As a0 (1 : Int) (5 : Int) _ _ hA hw) tw953 tw955 (tbp 48 (n := 21) (by decide +kernel)) tw10 tw956 ⟨rfl, rfl⟩ ⟨rfl, by decide, by decide, pd_X7_ofKind⟩ ⟨Nat.le_of_ble_eq_true rfl, Nat.le_of_ble_eq_true rfl⟩ ⟨Nat.zero_le _, Nat.zero_le _⟩ (Nat.le_of_ble_eq_true rfl) dX7_counted_94 rfl hp9 (fun v9 h94 hq9 => ?_)
    obtain ⟨r94, rfl, hw⟩ := hq9
    exact aw_iret (pc := 97) C hr dX7_counted_97 ⟨Nat.le_of_ble_eq_true rfl, Nat.le_of_ble_eq_true rfl⟩ ⟨_, rfl, hw⟩
  · have hw := hw.2.2.2.2.2.2.2.2.1 hc9
    refine aw_tableIn (pc := 1) (off := 97) (tgt := 98) C dX7_counted_1 (by omega) (by omega) (by rw [hc9]; rfl) (by decide) ?_
    refine aw_aload_n (pc := 98) C dX7_counted_98 rfl rfl ?_
    obtain ⟨hp9, hw⟩ := hw
    refine aw_getI (pc := 99) C (ci := 7) (k := 12) ci7 (by decide) tw804 dX7_counted_99 rfl hp9 ?_
    exact aw_iret (pc := 102) C hr dX7_counted_102 ⟨Nat.le_of_ble_eq_true rfl, Nat.le_of_ble_eq_true rfl⟩ ⟨_, rfl, hw⟩
  · have hw := hw.2.2.2.2.2.2.2.2.2.1 hc9
    refine aw_tableIn (pc := 1) (off := 107) (tgt := 108) C dX7_counted_1 (by omega) (by omega) (by rw [hc9]; rfl) (by decide) ?_
    refine aw_aload_n (pc := 108) C dX7_counted_108 rfl rfl ?_
    refine aw_iload_n (pc := 109) C dX7_counted_109 rfl rfl ?_
    obtain ⟨hp9, hw⟩ := hw
    refine aw_callV (pc := 110) (as := [vI a1]) C ci7 (fun As hA => met_X7_sumOf G l As a0 a1 _ _ hA hw) tw1077 tw1079 (tbp 69 (n := 21) (by decide +kernel)) tw10 tw1080 ⟨rfl, rfl⟩ ⟨rfl, by decide, by decide, pd_X7_sumOf⟩ ⟨Nat.le_of_ble_eq_true rfl, Nat.le_of_ble_eq_true rfl⟩ ⟨Nat.zero_le _, Nat.zero_le _⟩ (Nat.le_of_ble_eq_true rfl) dX7_counted_110 rfl hp9 (fun v9 h110 hq9 => ?_)
    obtain ⟨r110, rfl, hw⟩ := hq9
    exact aw_iret (pc := 113) C hr dX7_counted_113 ⟨Nat.le_of_ble_eq_true rfl, Nat.le_of_ble_eq_true rfl⟩ ⟨_, rfl, hw⟩
  · have hw := hw.2.2.2.2.2.2.2.2.2.2.1 hc9
    refine aw_tableIn (pc := 1) (off := 107) (tgt := 108) C dX7_counted_1 (by omega) (by omega) (by rw [hc9]; rfl) (by decide) ?_
    refine aw_aload_n (pc := 108) C dX7_counted_108 rfl rfl ?_
    refine aw_iload_n (pc := 109) C dX7_counted_109 rfl rfl ?_
    obtain ⟨hp9, hw⟩ := hw
    refine aw_callV (pc := 110) (as := [vI a1]) C ci7 (fun As hA => met_X7_sumOf G l As a0 a1 _ _ hA hw) tw1077 tw1079 (tbp 69 (n := 21) (by decide +kernel)) tw10 tw1080 ⟨rfl, rfl⟩ ⟨rfl, by decide, by decide, pd_X7_sumOf⟩ ⟨Nat.le_of_ble_eq_true rfl, Nat.le_of_ble_eq_true rfl⟩ ⟨Nat.zero_le _, Nat.zero_le _⟩ (Nat.le_of_ble_eq_true rfl) dX7_counted_110 rfl hp9 (fun v9 h110 hq9 => ?_)
    obtain ⟨r110, rfl, hw⟩ := hq9
    exact aw_iret (pc := 113) C hr dX7_counted_113 ⟨Nat.le_of_ble_eq_true rfl, Nat.le_of_ble_eq_true rfl⟩ ⟨_, rfl, hw⟩
  · have hw := hw.2.2.2.2.2.2.2.2.2.2.2.1 hc9
    refine aw_tableIn (pc := 1) (off := 107) (tgt := 108) C dX7_counted_1 (by omega) (by omega) (by rw [hc9]; rfl) (by decide) ?_
    refine aw_aload_n (pc := 108) C dX7_counted_108 rfl rfl ?_
    refine aw_iload_n (pc := 109) C dX7_counted_109 rfl rfl ?_
    obtain ⟨hp9, hw⟩ := hw
    refine aw_callV (pc := 110) (as := [vI a1]) C ci7 (fun As hA => met_X7_sumOf G l As a0 a1 _ _ hA hw) tw1077 tw1079 (tbp 69 (n := 21) (by decide +kernel)) tw10 tw1080 ⟨rfl, rfl⟩ ⟨rfl, by decide, by decide, pd_X7_sumOf⟩ ⟨Nat.le_of_ble_eq_true rfl, Nat.le_of_ble_eq_true rfl⟩ ⟨Nat.zero_le _, Nat.zero_le _⟩ (Nat.le_of_ble_eq_true rfl) dX7_counted_110 rfl hp9 (fun v9 h110 hq9 => ?_)
    obtain ⟨r110, rfl, hw⟩ := hq9
    exact aw_iret (pc := 113) C hr dX7_counted_113 ⟨Nat.le_of_ble_eq_true rfl, Nat.le_of_ble_eq_true rfl⟩ ⟨_, rfl, hw⟩
  · have hw := hw.2.2.2.2.2.2.2.2.2.2.2.2.1 hc9
    refine aw_tableIn (pc := 1) (off := 102) (tgt := 103) C dX7_counted_1 (by omega) (by omega) (by rw [hc9]; rfl) (by decide) ?_
    refine aw_aload_n (pc := 103) C dX7_counted_103 rfl rfl ?_
    obtain ⟨hp9, hw⟩ := hw
    refine aw_getI (pc := 104) C (ci := 7) (k := 2) ci7 (by decide) tw794 dX7_counted_104 rfl hp9 ?_
    exact aw_iret (pc := 107) C hr dX7_counted_107 ⟨Nat.le_of_ble_eq_true rfl, Nat.le_of_ble_eq_true rfl⟩ ⟨_, rfl, hw⟩
  · have hw := hw.2.2.2.2.2.2.2.2.2.2.2.2.2 hc9
    refine aw_tableOut (pc := 1) (tgt := 108) C dX7_counted_1 hc9 (by decide) ?_
    refine aw_aload_n (pc := 108) C dX7_counted_108 rfl rfl ?_
    refine aw_iload_n (pc := 109) C dX7_counted_109 rfl rfl ?_
    obtain ⟨hp9, hw⟩ := hw
    refine aw_callV (pc := 110) (as := [vI a1]) C ci7 (fun As hA => met_X7_sumOf G l As a0 a1 _ _ hA hw) tw1077 tw1079 (tbp 69 (n := 21) (by decide +kernel)) tw10 tw1080 ⟨rfl, rfl⟩ ⟨rfl, by decide, by decide, pd_X7_sumOf⟩ ⟨Nat.le_of_ble_eq_true rfl, Nat.le_of_ble_eq_true rfl⟩ ⟨Nat.zero_le _, Nat.zero_le _⟩ (Nat.le_of_ble_eq_true rfl) dX7_counted_110 rfl hp9 (fun v9 h110 hq9 => ?_)
    obtain ⟨r110, rfl, hw⟩ := hq9
    exact aw_iret (pc := 113) C hr dX7_counted_113 ⟨Nat.le_of_ble_eq_true rfl, Nat.le_of_ble_eq_true rfl⟩ ⟨_, rfl, hw⟩
theorem dX7_count_0 : decode cX7_count 0 = .ok (.aload_n 0, 1) := by decide +kernel
theorem dX7_count_1 : decode cX7_count 1 = .ok (.iload_n 1, 1) := by decide +kernel
theorem dX7_count_2 : decode cX7_count 2 = .ok (.iconst 0, 1) := by decide +kernel
theorem dX7_count_3 : decode cX7_count 3 = .ok (.bipush 12, 2) := by decide +kernel
theorem dX7_count_5 : decode cX7_count 5 = .ok (.invokestatic 65, 3) := by decide +kernel
theorem dX7_count_8 : decode cX7_count 8 = .ok (.ifCond .eq 7, 3) := by decide +kernel
theorem dX7_count_11 : decode cX7_count 11 = .ok (.iconst 0, 1) := by decide +kernel
theorem dX7_count_12 : decode cX7_count 12 = .ok (.goto 4, 3) := by decide +kernel
theorem dX7_count_15 : decode cX7_count 15 = .ok (.iconst 1, 1) := by decide +kernel
theorem dX7_count_16 : decode cX7_count 16 = .ok (.putfield 61, 3) := by decide +kernel
theorem dX7_count_19 : decode cX7_count 19 = .ok (.aload_n 0, 1) := by decide +kernel
theorem dX7_count_20 : decode cX7_count 20 = .ok (.getfield 61, 3) := by decide +kernel
theorem dX7_count_23 : decode cX7_count 23 = .ok (.ifCond .le 5, 3) := by decide +kernel
theorem dX7_count_26 : decode cX7_count 26 = .ok (.iconst 0, 1) := by decide +kernel
theorem dX7_count_27 : decode cX7_count 27 = .ok (.ireturn, 1) := by decide +kernel
theorem dX7_count_28 : decode cX7_count 28 = .ok (.aload_n 0, 1) := by decide +kernel
theorem dX7_count_29 : decode cX7_count 29 = .ok (.invokevirtual 170, 3) := by decide +kernel
theorem dX7_count_32 : decode cX7_count 32 = .ok (.aload_n 0, 1) := by decide +kernel
theorem dX7_count_33 : decode cX7_count 33 = .ok (.iload_n 1, 1) := by decide +kernel
theorem dX7_count_34 : decode cX7_count 34 = .ok (.invokevirtual 207, 3) := by decide +kernel
theorem dX7_count_37 : decode cX7_count 37 = .ok (.ireturn, 1) := by decide +kernel
theorem pd_X7_count : (parseMethodDescriptor yX7_count.desc).map (fun d => d.parameters.length) = some 1 := by decide +kernel
def w_X7_count (zz : Nat → Nat) (a0 : Nat) (a1 : Int) (h : AH) (Q : Int → AH → Prop) : Prop := w_X7_within zz a1 (0 : Int) (12 : Int) h (fun (r5 : Int) (h5 : AH) => jn (fun (t1_16 : Int) (h_16 : AH) => okP h_16 a0 7 ∧ ∀ h16 : AH, h16 = sfI h_16 a0 0 t1_16 → okA h16 a0 7 ∧ (((hfI h16 a0 0) ≤ 0) → okA h16 a0 7 ∧ w_X7_lay zz a0 h16 (fun  (h29 : AH) => okA h29 a0 7 ∧ w_X7_counted zz a0 a1 h29 (fun (r34 : Int) (h34 : AH) => Q r34 h34))) ∧ ((¬ ((hfI h16 a0 0) ≤ 0)) → Q (0 : Int) h16)) (fun k_16 : Int → AH → Prop => ((r5 = 0) → k_16 (1 : Int) h5) ∧ ((¬ (r5 = 0)) → k_16 (0 : Int) h5)))
set_option maxRecDepth 100000 in
set_option maxHeartbeats 4000000 in
theorem met_X7_count (G : GG) (l : Launch) : ∀ (As : List Value) (a0 : Nat) (a1 : Int) (h : AH) (Q : Int → AH → Prop), As.map ab = List.map some ([vR a0, vI a1] : List AV) → w_X7_count G.2.2 a0 a1 h Q → Met l yX7_count (.code yX7_count cX7_count 2 (some .int) :: xTb) ({ frames := 5, cells := 0, slots := 0, locals := 117 } : Room) (PcA G As h) (QG G (oI Q)) 0 0 (frA G) := by
  intro As a0 a1 h Q hA hw
  refine met_of hA (by decide) (Nat.le_of_ble_eq_true rfl) (fun p e s m args below meth c C hml hr hnm => ?_)
  unfold w_X7_count at hw
  refine aw_aload_n (pc := 0) C dX7_count_0 rfl rfl ?_
  refine aw_iload_n (pc := 1) C dX7_count_1 rfl rfl ?_
  refine aw_iconst (pc := 2) C dX7_count_2 (i := (0 : Int)) (by decide) ?_
  refine aw_bipush (pc := 3) C dX7_count_3 (i := (12 : Int)) (by decide) ?_
  refine aw_callS (pc := 5) (as := [vI a1, vI (0 : Int), vI (12 : Int)]) C (fun As hA => met_X7_within G l As a1 (0 : Int) (12 : Int) _ _ hA hw) tw883 tw884 tw10 tw885 ⟨rfl, rfl⟩ ⟨by decide, by decide, pd_X7_within⟩ ⟨Nat.le_of_ble_eq_true rfl, Nat.le_of_ble_eq_true rfl⟩ ⟨Nat.zero_le _, Nat.zero_le _⟩ (Nat.le_of_ble_eq_true rfl) dX7_count_5 rfl (fun v9 h5 hq9 => ?_)
  obtain ⟨r5, rfl, hw⟩ := hq9
  obtain ⟨k_16, hk_16, hw⟩ := jn_out hw
  have J_16 : ∀ (t1_16 : Int) (h_16 : AH), k_16 t1_16 h_16 → AW G p l e ({ frames := 5, cells := 0, slots := 0, locals := 117 } : Room) s m args below meth c 0 0 (MQ below (QG G (oI Q)) args s 0 0 (frA G)) 16 (eOf [(0, vR a0), (1, vI a1)]) [vI t1_16, vR a0] h_16 := by
    intro t1_16 h_16 hw
    rw [hk_16] at hw
    obtain ⟨hp9, hw⟩ := hw
    refine aw_putI (pc := 16) C (ci := 7) (k := 0) ci7 (by decide) tw792 (Or.inl rfl) dX7_count_16 rfl hp9 (aw_nmH (fun h16 e9 => ?_))
    have hw := hw h16 e9
    refine aw_aload_n (pc := 19) C dX7_count_19 rfl rfl ?_
    obtain ⟨hp9, hw⟩ := hw
    refine aw_getI (pc := 20) C (ci := 7) (k := 0) ci7 (by decide) tw792 dX7_count_20 rfl hp9 ?_
    refine aw_if_le (pc := 23) (tgt := 28) C dX7_count_23 (by decide) (fun hc9 => ?_) (fun hc9 => ?_)
    · have hw := hw.1 hc9
      refine aw_aload_n (pc := 28) C dX7_count_28 rfl rfl ?_
      obtain ⟨hp9, hw⟩ := hw
      refine aw_callV (pc := 29) (as := []) C ci7 (fun As hA => met_X7_lay G l As a0 _ _ hA hw) tw910 tw912 (tbp 38 (n := 21) (by decide +kernel)) tw10 tw913 ⟨rfl, rfl⟩ ⟨rfl, by decide, by decide, pd_X7_lay⟩ ⟨Nat.le_of_ble_eq_true rfl, Nat.le_of_ble_eq_true rfl⟩ ⟨Nat.zero_le _, Nat.zero_le _⟩ (Nat.le_of_ble_eq_true rfl) dX7_count_29 rfl hp9 (fun v9 h29 hq9 => ?_)
      obtain ⟨rfl, hw⟩ := hq9
      refine aw_aload_n (pc := 32) C dX7_count_32 rfl rfl ?_
      refine aw_iload_n (pc := 33) C dX7_count_33 rfl rfl ?_
      obtain ⟨hp9, hw⟩ := hw
      refine aw_callV (pc := 34) (as := [vI a1]) C ci7 (fun As hA => met_X7_counted G l As a0 a1 _ _ hA hw) tw1073 tw1075 (tbp 68 (n := 21) (by decide +kernel)) tw10 tw1076 ⟨rfl, rfl⟩ ⟨rfl, by decide, by decide, pd_X7_counted⟩ ⟨Nat.le_of_ble_eq_true rfl, Nat.le_of_ble_eq_true rfl⟩ ⟨Nat.zero_le _, Nat.zero_le _⟩ (Nat.le_of_ble_eq_true rfl) dX7_count_34 rfl hp9 (fun v9 h34 hq9 => ?_)
      obtain ⟨r34, rfl, hw⟩ := hq9
      exact aw_iret (pc := 37) C hr dX7_count_37 ⟨Nat.le_of_ble_eq_true rfl, Nat.le_of_ble_eq_true rfl⟩ ⟨_, rfl, hw⟩
    · have hw := hw.2 hc9
      refine aw_iconst (pc := 26) C dX7_count_26 (i := (0 : Int)) (by decide) ?_
      exact aw_iret (pc := 27) C hr dX7_count_27 ⟨Nat.le_of_ble_eq_true rfl, Nat.le_of_ble_eq_true rfl⟩ ⟨_, rfl, hw⟩
  refine aw_if_eq (pc := 8) (tgt := 15) C dX7_count_8 (by decide) (fun hc9 => ?_) (fun hc9 => ?_)
  · have hw := hw.1 hc9
    refine aw_iconst (pc := 15) C dX7_count_15 (i := (1 : Int)) (by decide) ?_
    refine aw_sub [(0, vR a0), (1, vI a1)] ⟨rfl, rfl, trivial⟩ ?_
    exact J_16 _ _ hw
  · have hw := hw.2 hc9
    refine aw_iconst (pc := 11) C dX7_count_11 (i := (0 : Int)) (by decide) ?_
    refine aw_goto (pc := 12) (tgt := 16) C dX7_count_12 (by decide) ?_
    refine aw_sub [(0, vR a0), (1, vI a1)] ⟨rfl, rfl, trivial⟩ ?_
    exact J_16 _ _ hw
theorem dX7_setting_0 : decode cX7_setting 0 = .ok (.aload_n 0, 1) := by decide +kernel
theorem dX7_setting_1 : decode cX7_setting 1 = .ok (.iload_n 1, 1) := by decide +kernel
theorem dX7_setting_2 : decode cX7_setting 2 = .ok (.invokestatic 152, 3) := by decide +kernel
theorem dX7_setting_5 : decode cX7_setting 5 = .ok (.ifCond .eq 7, 3) := by decide +kernel
theorem dX7_setting_8 : decode cX7_setting 8 = .ok (.iconst 0, 1) := by decide +kernel
theorem dX7_setting_9 : decode cX7_setting 9 = .ok (.goto 4, 3) := by decide +kernel
theorem dX7_setting_12 : decode cX7_setting 12 = .ok (.iconst 1, 1) := by decide +kernel
theorem dX7_setting_13 : decode cX7_setting 13 = .ok (.putfield 61, 3) := by decide +kernel
theorem dX7_setting_16 : decode cX7_setting 16 = .ok (.aload_n 0, 1) := by decide +kernel
theorem dX7_setting_17 : decode cX7_setting 17 = .ok (.getfield 61, 3) := by decide +kernel
theorem dX7_setting_20 : decode cX7_setting 20 = .ok (.ifCond .le 7, 3) := by decide +kernel
theorem dX7_setting_23 : decode cX7_setting 23 = .ok (.iconst 0, 1) := by decide +kernel
theorem dX7_setting_24 : decode cX7_setting 24 = .ok (.goto 8, 3) := by decide +kernel
theorem dX7_setting_27 : decode cX7_setting 27 = .ok (.aload_n 0, 1) := by decide +kernel
theorem dX7_setting_28 : decode cX7_setting 28 = .ok (.iload_n 1, 1) := by decide +kernel
theorem dX7_setting_29 : decode cX7_setting 29 = .ok (.invokevirtual 73, 3) := by decide +kernel
theorem dX7_setting_32 : decode cX7_setting 32 = .ok (.ireturn, 1) := by decide +kernel
theorem pd_X7_setting : (parseMethodDescriptor yX7_setting.desc).map (fun d => d.parameters.length) = some 1 := by decide +kernel
def w_X7_setting (zz : Nat → Nat) (a0 : Nat) (a1 : Int) (h : AH) (Q : Int → AH → Prop) : Prop := w_X7_isSetting zz a1 h (fun (r2 : Int) (h2 : AH) => jn (fun (t1_13 : Int) (h_13 : AH) => okP h_13 a0 7 ∧ ∀ h13 : AH, h13 = sfI h_13 a0 0 t1_13 → okA h13 a0 7 ∧ jn (fun (t0_32 : Int) (h_32 : AH) => Q t0_32 h_32) (fun k_32 : Int → AH → Prop => (((hfI h13 a0 0) ≤ 0) → okA h13 a0 7 ∧ w_X7_of zz a0 a1 h13 (fun (r29 : Int) (h29 : AH) => k_32 r29 h29)) ∧ ((¬ ((hfI h13 a0 0) ≤ 0)) → k_32 (0 : Int) h13))) (fun k_13 : Int → AH → Prop => ((r2 = 0) → k_13 (1 : Int) h2) ∧ ((¬ (r2 = 0)) → k_13 (0 : Int) h2)))
set_option maxRecDepth 100000 in
set_option maxHeartbeats 4000000 in
theorem met_X7_setting (G : GG) (l : Launch) : ∀ (As : List Value) (a0 : Nat) (a1 : Int) (h : AH) (Q : Int → AH → Prop), As.map ab = List.map some ([vR a0, vI a1] : List AV) → w_X7_setting G.2.2 a0 a1 h Q → Met l yX7_setting (.code yX7_setting cX7_setting 2 (some .int) :: xTb) ({ frames := 2, cells := 0, slots := 0, locals := 42 } : Room) (PcA G As h) (QG G (oI Q)) 0 0 (frA G) := by
  intro As a0 a1 h Q hA hw
  refine met_of hA (by decide) (Nat.le_of_ble_eq_true rfl) (fun p e s m args below meth c C hml hr hnm => ?_)
  unfold w_X7_setting at hw
  refine aw_aload_n (pc := 0) C dX7_setting_0 rfl rfl ?_
  refine aw_iload_n (pc := 1) C dX7_setting_1 rfl rfl ?_
  refine aw_callS (pc := 2) (as := [vI a1]) C (fun As hA => met_X7_isSetting G l As a1 _ _ hA hw) tw880 tw881 tw10 tw882 ⟨rfl, rfl⟩ ⟨by decide, by decide, pd_X7_isSetting⟩ ⟨Nat.le_of_ble_eq_true rfl, Nat.le_of_ble_eq_true rfl⟩ ⟨Nat.zero_le _, Nat.zero_le _⟩ (Nat.le_of_ble_eq_true rfl) dX7_setting_2 rfl (fun v9 h2 hq9 => ?_)
  obtain ⟨r2, rfl, hw⟩ := hq9
  obtain ⟨k_13, hk_13, hw⟩ := jn_out hw
  have J_13 : ∀ (t1_13 : Int) (h_13 : AH), k_13 t1_13 h_13 → AW G p l e ({ frames := 2, cells := 0, slots := 0, locals := 42 } : Room) s m args below meth c 0 0 (MQ below (QG G (oI Q)) args s 0 0 (frA G)) 13 (eOf [(0, vR a0), (1, vI a1)]) [vI t1_13, vR a0] h_13 := by
    intro t1_13 h_13 hw
    rw [hk_13] at hw
    obtain ⟨hp9, hw⟩ := hw
    refine aw_putI (pc := 13) C (ci := 7) (k := 0) ci7 (by decide) tw792 (Or.inl rfl) dX7_setting_13 rfl hp9 (aw_nmH (fun h13 e9 => ?_))
    have hw := hw h13 e9
    refine aw_aload_n (pc := 16) C dX7_setting_16 rfl rfl ?_
    obtain ⟨hp9, hw⟩ := hw
    refine aw_getI (pc := 17) C (ci := 7) (k := 0) ci7 (by decide) tw792 dX7_setting_17 rfl hp9 ?_
    obtain ⟨k_32, hk_32, hw⟩ := jn_out hw
    have J_32 : ∀ (t0_32 : Int) (h_32 : AH), k_32 t0_32 h_32 → AW G p l e ({ frames := 2, cells := 0, slots := 0, locals := 42 } : Room) s m args below meth c 0 0 (MQ below (QG G (oI Q)) args s 0 0 (frA G)) 32 (eOf []) [vI t0_32] h_32 := by
      intro t0_32 h_32 hw
      rw [hk_32] at hw
      exact aw_iret (pc := 32) C hr dX7_setting_32 ⟨Nat.le_of_ble_eq_true rfl, Nat.le_of_ble_eq_true rfl⟩ ⟨_, rfl, hw⟩
    refine aw_if_le (pc := 20) (tgt := 27) C dX7_setting_20 (by decide) (fun hc9 => ?_) (fun hc9 => ?_)
    · have hw := hw.1 hc9
      refine aw_aload_n (pc := 27) C dX7_setting_27 rfl rfl ?_
      refine aw_iload_n (pc := 28) C dX7_setting_28 rfl rfl ?_
      obtain ⟨hp9, hw⟩ := hw
      refine aw_callV (pc := 29) (as := [vI a1]) C ci7 (fun As hA => met_X7_of G l As a0 a1 _ _ hA hw) tw945 tw947 (tbp 46 (n := 21) (by decide +kernel)) tw10 tw948 ⟨rfl, rfl⟩ ⟨rfl, by decide, by decide, pd_X7_of⟩ ⟨Nat.le_of_ble_eq_true rfl, Nat.le_of_ble_eq_true rfl⟩ ⟨Nat.zero_le _, Nat.zero_le _⟩ (Nat.le_of_ble_eq_true rfl) dX7_setting_29 rfl hp9 (fun v9 h29 hq9 => ?_)
      obtain ⟨r29, rfl, hw⟩ := hq9
      refine aw_sub [] trivial ?_
      exact J_32 _ _ hw
    · have hw := hw.2 hc9
      refine aw_iconst (pc := 23) C dX7_setting_23 (i := (0 : Int)) (by decide) ?_
      refine aw_goto (pc := 24) (tgt := 32) C dX7_setting_24 (by decide) ?_
      refine aw_sub [] trivial ?_
      exact J_32 _ _ hw
  refine aw_if_eq (pc := 5) (tgt := 12) C dX7_setting_5 (by decide) (fun hc9 => ?_) (fun hc9 => ?_)
  · have hw := hw.1 hc9
    refine aw_iconst (pc := 12) C dX7_setting_12 (i := (1 : Int)) (by decide) ?_
    refine aw_sub [(0, vR a0), (1, vI a1)] ⟨rfl, rfl, trivial⟩ ?_
    exact J_13 _ _ hw
  · have hw := hw.2 hc9
    refine aw_iconst (pc := 8) C dX7_setting_8 (i := (0 : Int)) (by decide) ?_
    refine aw_goto (pc := 9) (tgt := 13) C dX7_setting_9 (by decide) ?_
    refine aw_sub [(0, vR a0), (1, vI a1)] ⟨rfl, rfl, trivial⟩ ?_
    exact J_13 _ _ hw
theorem dX7_ifNow_0 : decode cX7_ifNow 0 = .ok (.aload_n 0, 1) := by decide +kernel
theorem dX7_ifNow_1 : decode cX7_ifNow 1 = .ok (.iload_n 1, 1) := by decide +kernel
theorem dX7_ifNow_2 : decode cX7_ifNow 2 = .ok (.invokevirtual 73, 3) := by decide +kernel
theorem dX7_ifNow_5 : decode cX7_ifNow 5 = .ok (.istore 4, 2) := by decide +kernel
theorem dX7_ifNow_7 : decode cX7_ifNow 7 = .ok (.aload_n 0, 1) := by decide +kernel
theorem dX7_ifNow_8 : decode cX7_ifNow 8 = .ok (.getfield 7, 3) := by decide +kernel
theorem dX7_ifNow_11 : decode cX7_ifNow 11 = .ok (.sipush 160, 3) := by decide +kernel
theorem dX7_ifNow_14 : decode cX7_ifNow 14 = .ok (.iload_n 1, 1) := by decide +kernel
theorem dX7_ifNow_15 : decode cX7_ifNow 15 = .ok (.iadd, 1) := by decide +kernel
theorem dX7_ifNow_16 : decode cX7_ifNow 16 = .ok (.iload_n 2, 1) := by decide +kernel
theorem dX7_ifNow_17 : decode cX7_ifNow 17 = .ok (.iastore, 1) := by decide +kernel
theorem dX7_ifNow_18 : decode cX7_ifNow 18 = .ok (.aload_n 0, 1) := by decide +kernel
theorem dX7_ifNow_19 : decode cX7_ifNow 19 = .ok (.invokevirtual 170, 3) := by decide +kernel
theorem dX7_ifNow_22 : decode cX7_ifNow 22 = .ok (.aload_n 0, 1) := by decide +kernel
theorem dX7_ifNow_23 : decode cX7_ifNow 23 = .ok (.iload_n 3, 1) := by decide +kernel
theorem dX7_ifNow_24 : decode cX7_ifNow 24 = .ok (.invokevirtual 207, 3) := by decide +kernel
theorem dX7_ifNow_27 : decode cX7_ifNow 27 = .ok (.istore 5, 2) := by decide +kernel
theorem dX7_ifNow_29 : decode cX7_ifNow 29 = .ok (.aload_n 0, 1) := by decide +kernel
theorem dX7_ifNow_30 : decode cX7_ifNow 30 = .ok (.getfield 7, 3) := by decide +kernel
theorem dX7_ifNow_33 : decode cX7_ifNow 33 = .ok (.sipush 160, 3) := by decide +kernel
theorem dX7_ifNow_36 : decode cX7_ifNow 36 = .ok (.iload_n 1, 1) := by decide +kernel
theorem dX7_ifNow_37 : decode cX7_ifNow 37 = .ok (.iadd, 1) := by decide +kernel
theorem dX7_ifNow_38 : decode cX7_ifNow 38 = .ok (.iload 4, 2) := by decide +kernel
theorem dX7_ifNow_40 : decode cX7_ifNow 40 = .ok (.iastore, 1) := by decide +kernel
theorem dX7_ifNow_41 : decode cX7_ifNow 41 = .ok (.iload 5, 2) := by decide +kernel
theorem dX7_ifNow_43 : decode cX7_ifNow 43 = .ok (.ireturn, 1) := by decide +kernel
theorem pd_X7_ifNow : (parseMethodDescriptor yX7_ifNow.desc).map (fun d => d.parameters.length) = some 3 := by decide +kernel
def w_X7_ifNow (zz : Nat → Nat) (a0 : Nat) (a1 : Int) (a2 : Int) (a3 : Int) (h : AH) (Q : Int → AH → Prop) : Prop := okA h a0 7 ∧ w_X7_of zz a0 a1 h (fun (r2 : Int) (h2 : AH) => okA h2 a0 7 ∧ ∃ b8 : Nat, hfR h2 a0 1 = some b8 ∧ inR ((160 : Int) + a1) ∧ okW h2 b8 ((160 : Int) + a1) ∧ ∀ h17 : AH, h17 = saI h2 b8 (u1 (haI h2 b8) ((160 : Int) + a1) a2) → okA h17 a0 7 ∧ w_X7_lay zz a0 h17 (fun  (h19 : AH) => okA h19 a0 7 ∧ w_X7_counted zz a0 a3 h19 (fun (r24 : Int) (h24 : AH) => okA h24 a0 7 ∧ ∃ b30 : Nat, hfR h24 a0 1 = some b30 ∧ inR ((160 : Int) + a1) ∧ okW h24 b30 ((160 : Int) + a1) ∧ ∀ h40 : AH, h40 = saI h24 b30 (u1 (haI h24 b30) ((160 : Int) + a1) r2) → Q r24 h40)))
set_option maxRecDepth 100000 in
set_option maxHeartbeats 4000000 in
theorem met_X7_ifNow (G : GG) (l : Launch) : ∀ (As : List Value) (a0 : Nat) (a1 : Int) (a2 : Int) (a3 : Int) (h : AH) (Q : Int → AH → Prop), As.map ab = List.map some ([vR a0, vI a1, vI a2, vI a3] : List AV) → w_X7_ifNow G.2.2 a0 a1 a2 a3 h Q → Met l yX7_ifNow (.code yX7_ifNow cX7_ifNow 6 (some .int) :: xTb) ({ frames := 5, cells := 0, slots := 0, locals := 117 } : Room) (PcA G As h) (QG G (oI Q)) 0 0 (frA G) := by
  intro As a0 a1 a2 a3 h Q hA hw
  refine met_of hA (by decide) (Nat.le_of_ble_eq_true rfl) (fun p e s m args below meth c C hml hr hnm => ?_)
  unfold w_X7_ifNow at hw
  refine aw_aload_n (pc := 0) C dX7_ifNow_0 rfl rfl ?_
  refine aw_iload_n (pc := 1) C dX7_ifNow_1 rfl rfl ?_
  obtain ⟨hp9, hw⟩ := hw
  refine aw_callV (pc := 2) (as := [vI a1]) C ci7 (fun As hA => met_X7_of G l As a0 a1 _ _ hA hw) tw945 tw947 (tbp 46 (n := 21) (by decide +kernel)) tw10 tw948 ⟨rfl, rfl⟩ ⟨rfl, by decide, by decide, pd_X7_of⟩ ⟨Nat.le_of_ble_eq_true rfl, Nat.le_of_ble_eq_true rfl⟩ ⟨Nat.zero_le _, Nat.zero_le _⟩ (Nat.le_of_ble_eq_true rfl) dX7_ifNow_2 rfl hp9 (fun v9 h2 hq9 => ?_)
  obtain ⟨r2, rfl, hw⟩ := hq9
  refine aw_istore (pc := 5) C dX7_ifNow_5 (by rw [hml]; decide) ?_
  refine aw_aload_n (pc := 7) C dX7_ifNow_7 rfl rfl ?_
  obtain ⟨hp9, b8, hb9, hw⟩ := hw
  refine aw_getR (pc := 8) C (ci := 7) (k := 1) ci7 (by decide) tw793 dX7_ifNow_8 rfl hp9 hb9 ?_
  refine aw_sipush (pc := 11) C dX7_ifNow_11 (i := (160 : Int)) (by decide) ?_
  refine aw_iload_n (pc := 14) C dX7_ifNow_14 rfl rfl ?_
  obtain ⟨hp9, hw⟩ := hw
  refine aw_iadd (pc := 15) C dX7_ifNow_15 hp9 ?_
  refine aw_iload_n (pc := 16) C dX7_ifNow_16 rfl rfl ?_
  obtain ⟨⟨k9, hp9⟩, hw⟩ := hw
  refine aw_iast (pc := 17) C dX7_ifNow_17 hp9 (aw_nmH (fun h17 e9 => ?_))
  have hw := hw h17 e9
  refine aw_aload_n (pc := 18) C dX7_ifNow_18 rfl rfl ?_
  obtain ⟨hp9, hw⟩ := hw
  refine aw_callV (pc := 19) (as := []) C ci7 (fun As hA => met_X7_lay G l As a0 _ _ hA hw) tw910 tw912 (tbp 38 (n := 21) (by decide +kernel)) tw10 tw913 ⟨rfl, rfl⟩ ⟨rfl, by decide, by decide, pd_X7_lay⟩ ⟨Nat.le_of_ble_eq_true rfl, Nat.le_of_ble_eq_true rfl⟩ ⟨Nat.zero_le _, Nat.zero_le _⟩ (Nat.le_of_ble_eq_true rfl) dX7_ifNow_19 rfl hp9 (fun v9 h19 hq9 => ?_)
  obtain ⟨rfl, hw⟩ := hq9
  refine aw_aload_n (pc := 22) C dX7_ifNow_22 rfl rfl ?_
  refine aw_iload_n (pc := 23) C dX7_ifNow_23 rfl rfl ?_
  obtain ⟨hp9, hw⟩ := hw
  refine aw_callV (pc := 24) (as := [vI a3]) C ci7 (fun As hA => met_X7_counted G l As a0 a3 _ _ hA hw) tw1073 tw1075 (tbp 68 (n := 21) (by decide +kernel)) tw10 tw1076 ⟨rfl, rfl⟩ ⟨rfl, by decide, by decide, pd_X7_counted⟩ ⟨Nat.le_of_ble_eq_true rfl, Nat.le_of_ble_eq_true rfl⟩ ⟨Nat.zero_le _, Nat.zero_le _⟩ (Nat.le_of_ble_eq_true rfl) dX7_ifNow_24 rfl hp9 (fun v9 h24 hq9 => ?_)
  obtain ⟨r24, rfl, hw⟩ := hq9
  refine aw_istore (pc := 27) C dX7_ifNow_27 (by rw [hml]; decide) ?_
  refine aw_aload_n (pc := 29) C dX7_ifNow_29 rfl rfl ?_
  obtain ⟨hp9, b30, hb9, hw⟩ := hw
  refine aw_getR (pc := 30) C (ci := 7) (k := 1) ci7 (by decide) tw793 dX7_ifNow_30 rfl hp9 hb9 ?_
  refine aw_sipush (pc := 33) C dX7_ifNow_33 (i := (160 : Int)) (by decide) ?_
  refine aw_iload_n (pc := 36) C dX7_ifNow_36 rfl rfl ?_
  obtain ⟨hp9, hw⟩ := hw
  refine aw_iadd (pc := 37) C dX7_ifNow_37 hp9 ?_
  refine aw_iload (pc := 38) C dX7_ifNow_38 rfl ?_
  obtain ⟨⟨k9, hp9⟩, hw⟩ := hw
  refine aw_iast (pc := 40) C dX7_ifNow_40 hp9 (aw_nmH (fun h40 e9 => ?_))
  have hw := hw h40 e9
  refine aw_iload (pc := 41) C dX7_ifNow_41 rfl ?_
  exact aw_iret (pc := 43) C hr dX7_ifNow_43 ⟨Nat.le_of_ble_eq_true rfl, Nat.le_of_ble_eq_true rfl⟩ ⟨_, rfl, hw⟩
theorem dX7_ifSet_0 : decode cX7_ifSet 0 = .ok (.aload_n 0, 1) := by decide +kernel
theorem dX7_ifSet_1 : decode cX7_ifSet 1 = .ok (.iload_n 1, 1) := by decide +kernel
theorem dX7_ifSet_2 : decode cX7_ifSet 2 = .ok (.invokestatic 152, 3) := by decide +kernel
theorem dX7_ifSet_5 : decode cX7_ifSet 5 = .ok (.ifCond .ne 7, 3) := by decide +kernel
theorem dX7_ifSet_8 : decode cX7_ifSet 8 = .ok (.iconst 1, 1) := by decide +kernel
theorem dX7_ifSet_9 : decode cX7_ifSet 9 = .ok (.goto 26, 3) := by decide +kernel
theorem dX7_ifSet_12 : decode cX7_ifSet 12 = .ok (.iload_n 1, 1) := by decide +kernel
theorem dX7_ifSet_13 : decode cX7_ifSet 13 = .ok (.iload_n 2, 1) := by decide +kernel
theorem dX7_ifSet_14 : decode cX7_ifSet 14 = .ok (.invokestatic 155, 3) := by decide +kernel
theorem dX7_ifSet_17 : decode cX7_ifSet 17 = .ok (.ifCond .eq 17, 3) := by decide +kernel
theorem dX7_ifSet_20 : decode cX7_ifSet 20 = .ok (.iload_n 3, 1) := by decide +kernel
theorem dX7_ifSet_21 : decode cX7_ifSet 21 = .ok (.iconst 0, 1) := by decide +kernel
theorem dX7_ifSet_22 : decode cX7_ifSet 22 = .ok (.bipush 11, 2) := by decide +kernel
theorem dX7_ifSet_24 : decode cX7_ifSet 24 = .ok (.invokestatic 65, 3) := by decide +kernel
theorem dX7_ifSet_27 : decode cX7_ifSet 27 = .ok (.ifCond .eq 7, 3) := by decide +kernel
theorem dX7_ifSet_30 : decode cX7_ifSet 30 = .ok (.iconst 0, 1) := by decide +kernel
theorem dX7_ifSet_31 : decode cX7_ifSet 31 = .ok (.goto 4, 3) := by decide +kernel
theorem dX7_ifSet_34 : decode cX7_ifSet 34 = .ok (.iconst 2, 1) := by decide +kernel
theorem dX7_ifSet_35 : decode cX7_ifSet 35 = .ok (.putfield 61, 3) := by decide +kernel
theorem dX7_ifSet_38 : decode cX7_ifSet 38 = .ok (.aload_n 0, 1) := by decide +kernel
theorem dX7_ifSet_39 : decode cX7_ifSet 39 = .ok (.getfield 61, 3) := by decide +kernel
theorem dX7_ifSet_42 : decode cX7_ifSet 42 = .ok (.ifCond .le 7, 3) := by decide +kernel
theorem dX7_ifSet_45 : decode cX7_ifSet 45 = .ok (.iconst 0, 1) := by decide +kernel
theorem dX7_ifSet_46 : decode cX7_ifSet 46 = .ok (.goto 10, 3) := by decide +kernel
theorem dX7_ifSet_49 : decode cX7_ifSet 49 = .ok (.aload_n 0, 1) := by decide +kernel
theorem dX7_ifSet_50 : decode cX7_ifSet 50 = .ok (.iload_n 1, 1) := by decide +kernel
theorem dX7_ifSet_51 : decode cX7_ifSet 51 = .ok (.iload_n 2, 1) := by decide +kernel
theorem dX7_ifSet_52 : decode cX7_ifSet 52 = .ok (.iload_n 3, 1) := by decide +kernel
theorem dX7_ifSet_53 : decode cX7_ifSet 53 = .ok (.invokevirtual 210, 3) := by decide +kernel
theorem dX7_ifSet_56 : decode cX7_ifSet 56 = .ok (.ireturn, 1) := by decide +kernel
theorem pd_X7_ifSet : (parseMethodDescriptor yX7_ifSet.desc).map (fun d => d.parameters.length) = some 3 := by decide +kernel
def w_X7_ifSet (zz : Nat → Nat) (a0 : Nat) (a1 : Int) (a2 : Int) (a3 : Int) (h : AH) (Q : Int → AH → Prop) : Prop := w_X7_isSetting zz a1 h (fun (r2 : Int) (h2 : AH) => jn (fun (t1_35 : Int) (h_35 : AH) => okP h_35 a0 7 ∧ ∀ h35 : AH, h35 = sfI h_35 a0 0 t1_35 → okA h35 a0 7 ∧ jn (fun (t0_56 : Int) (h_56 : AH) => Q t0_56 h_56) (fun k_56 : Int → AH → Prop => (((hfI h35 a0 0) ≤ 0) → okA h35 a0 7 ∧ w_X7_ifNow zz a0 a1 a2 a3 h35 (fun (r53 : Int) (h53 : AH) => k_56 r53 h53)) ∧ ((¬ ((hfI h35 a0 0) ≤ 0)) → k_56 (0 : Int) h35))) (fun k_35 : Int → AH → Prop => ((¬ r2 = 0) → w_X7_isValue zz a1 a2 h2 (fun (r14 : Int) (h14 : AH) => jn (fun  (h_34 : AH) => k_35 (2 : Int) h_34) (fun k_34 : AH → Prop => ((r14 = 0) → k_34  h14) ∧ ((¬ (r14 = 0)) → w_X7_within zz a3 (0 : Int) (11 : Int) h14 (fun (r24 : Int) (h24 : AH) => ((r24 = 0) → k_34  h24) ∧ ((¬ (r24 = 0)) → k_35 (0 : Int) h24)))))) ∧ ((r2 = 0) → k_35 (1 : Int) h2)))
set_option maxRecDepth 100000 in
set_option maxHeartbeats 4000000 in
theorem met_X7_ifSet (G : GG) (l : Launch) : ∀ (As : List Value) (a0 : Nat) (a1 : Int) (a2 : Int) (a3 : Int) (h : AH) (Q : Int → AH → Prop), As.map ab = List.map some ([vR a0, vI a1, vI a2, vI a3] : List AV) → w_X7_ifSet G.2.2 a0 a1 a2 a3 h Q → Met l yX7_ifSet (.code yX7_ifSet cX7_ifSet 4 (some .int) :: xTb) ({ frames := 6, cells := 0, slots := 0, locals := 142 } : Room) (PcA G As h) (QG G (oI Q)) 0 0 (frA G) := by
  intro As a0 a1 a2 a3 h Q hA hw
  refine met_of hA (by decide) (Nat.le_of_ble_eq_true rfl) (fun p e s m args below meth c C hml hr hnm => ?_)
  unfold w_X7_ifSet at hw
  refine aw_aload_n (pc := 0) C dX7_ifSet_0 rfl rfl ?_
  refine aw_iload_n (pc := 1) C dX7_ifSet_1 rfl rfl ?_
  refine aw_callS (pc := 2) (as := [vI a1]) C (fun As hA => met_X7_isSetting G l As a1 _ _ hA hw) tw880 tw881 tw10 tw882 ⟨rfl, rfl⟩ ⟨by decide, by decide, pd_X7_isSetting⟩ ⟨Nat.le_of_ble_eq_true rfl, Nat.le_of_ble_eq_true rfl⟩ ⟨Nat.zero_le _, Nat.zero_le _⟩ (Nat.le_of_ble_eq_true rfl) dX7_ifSet_2 rfl (fun v9 h2 hq9 => ?_)
  obtain ⟨r2, rfl, hw⟩ := hq9
  obtain ⟨k_35, hk_35, hw⟩ := jn_out hw
  have J_35 : ∀ (t1_35 : Int) (h_35 : AH), k_35 t1_35 h_35 → AW G p l e ({ frames := 6, cells := 0, slots := 0, locals := 142 } : Room) s m args below meth c 0 0 (MQ below (QG G (oI Q)) args s 0 0 (frA G)) 35 (eOf [(0, vR a0), (1, vI a1), (2, vI a2), (3, vI a3)]) [vI t1_35, vR a0] h_35 := by
    intro t1_35 h_35 hw
    rw [hk_35] at hw
    obtain ⟨hp9, hw⟩ := hw
    refine aw_putI (pc := 35) C (ci := 7) (k := 0) ci7 (by decide) tw792 (Or.inl rfl) dX7_ifSet_35 rfl hp9 (aw_nmH (fun h35 e9 => ?_))
    have hw := hw h35 e9
    refine aw_aload_n (pc := 38) C dX7_ifSet_38 rfl rfl ?_
    obtain ⟨hp9, hw⟩ := hw
    refine aw_getI (pc := 39) C (ci := 7) (k := 0) ci7 (by decide) tw792 dX7_ifSet_39 rfl hp9 ?_
    obtain ⟨k_56, hk_56, hw⟩ := jn_out hw
    have J_56 : ∀ (t0_56 : Int) (h_56 : AH), k_56 t0_56 h_56 → AW G p l e ({ frames := 6, cells := 0, slots := 0, locals := 142 } : Room) s m args below meth c 0 0 (MQ below (QG G (oI Q)) args s 0 0 (frA G)) 56 (eOf []) [vI t0_56] h_56 := by
      intro t0_56 h_56 hw
      rw [hk_56] at hw
      exact aw_iret (pc := 56) C hr dX7_ifSet_56 ⟨Nat.le_of_ble_eq_true rfl, Nat.le_of_ble_eq_true rfl⟩ ⟨_, rfl, hw⟩
    refine aw_if_le (pc := 42) (tgt := 49) C dX7_ifSet_42 (by decide) (fun hc9 => ?_) (fun hc9 => ?_)
    · have hw := hw.1 hc9
      refine aw_aload_n (pc := 49) C dX7_ifSet_49 rfl rfl ?_
      refine aw_iload_n (pc := 50) C dX7_ifSet_50 rfl rfl ?_
      refine aw_iload_n (pc := 51) C dX7_ifSet_51 rfl rfl ?_
      refine aw_iload_n (pc := 52) C dX7_ifSet_52 rfl rfl ?_
      obtain ⟨hp9, hw⟩ := hw
      refine aw_callV (pc := 53) (as := [vI a1, vI a2, vI a3]) C ci7 (fun As hA => met_X7_ifNow G l As a0 a1 a2 a3 _ _ hA hw) tw1089 tw1091 (tbp 70 (n := 21) (by decide +kernel)) tw10 tw1092 ⟨rfl, rfl⟩ ⟨rfl, by decide, by decide, pd_X7_ifNow⟩ ⟨Nat.le_of_ble_eq_true rfl, Nat.le_of_ble_eq_true rfl⟩ ⟨Nat.zero_le _, Nat.zero_le _⟩ (Nat.le_of_ble_eq_true rfl) dX7_ifSet_53 rfl hp9 (fun v9 h53 hq9 => ?_)
      obtain ⟨r53, rfl, hw⟩ := hq9
      refine aw_sub [] trivial ?_
      exact J_56 _ _ hw
    · have hw := hw.2 hc9
      refine aw_iconst (pc := 45) C dX7_ifSet_45 (i := (0 : Int)) (by decide) ?_
      refine aw_goto (pc := 46) (tgt := 56) C dX7_ifSet_46 (by decide) ?_
      refine aw_sub [] trivial ?_
      exact J_56 _ _ hw
  refine aw_if_ne (pc := 5) (tgt := 12) C dX7_ifSet_5 (by decide) (fun hc9 => ?_) (fun hc9 => ?_)
  · have hw := hw.1 hc9
    refine aw_iload_n (pc := 12) C dX7_ifSet_12 rfl rfl ?_
    refine aw_iload_n (pc := 13) C dX7_ifSet_13 rfl rfl ?_
    refine aw_callS (pc := 14) (as := [vI a1, vI a2]) C (fun As hA => met_X7_isValue G l As a1 a2 _ _ hA hw) tw886 tw887 tw10 tw888 ⟨rfl, rfl⟩ ⟨by decide, by decide, pd_X7_isValue⟩ ⟨Nat.le_of_ble_eq_true rfl, Nat.le_of_ble_eq_true rfl⟩ ⟨Nat.zero_le _, Nat.zero_le _⟩ (Nat.le_of_ble_eq_true rfl) dX7_ifSet_14 rfl (fun v9 h14 hq9 => ?_)
    obtain ⟨r14, rfl, hw⟩ := hq9
    obtain ⟨k_34, hk_34, hw⟩ := jn_out hw
    have J_34 : ∀  (h_34 : AH), k_34  h_34 → AW G p l e ({ frames := 6, cells := 0, slots := 0, locals := 142 } : Room) s m args below meth c 0 0 (MQ below (QG G (oI Q)) args s 0 0 (frA G)) 34 (eOf [(0, vR a0), (1, vI a1), (2, vI a2), (3, vI a3)]) [vR a0] h_34 := by
      intro  h_34 hw
      rw [hk_34] at hw
      refine aw_iconst (pc := 34) C dX7_ifSet_34 (i := (2 : Int)) (by decide) ?_
      refine aw_sub [(0, vR a0), (1, vI a1), (2, vI a2), (3, vI a3)] ⟨rfl, rfl, rfl, rfl, trivial⟩ ?_
      exact J_35 _ _ hw
    refine aw_if_eq (pc := 17) (tgt := 34) C dX7_ifSet_17 (by decide) (fun hc9 => ?_) (fun hc9 => ?_)
    · have hw := hw.1 hc9
      refine aw_sub [(0, vR a0), (1, vI a1), (2, vI a2), (3, vI a3)] ⟨rfl, rfl, rfl, rfl, trivial⟩ ?_
      exact J_34  _ hw
    · have hw := hw.2 hc9
      refine aw_iload_n (pc := 20) C dX7_ifSet_20 rfl rfl ?_
      refine aw_iconst (pc := 21) C dX7_ifSet_21 (i := (0 : Int)) (by decide) ?_
      refine aw_bipush (pc := 22) C dX7_ifSet_22 (i := (11 : Int)) (by decide) ?_
      refine aw_callS (pc := 24) (as := [vI a3, vI (0 : Int), vI (11 : Int)]) C (fun As hA => met_X7_within G l As a3 (0 : Int) (11 : Int) _ _ hA hw) tw883 tw884 tw10 tw885 ⟨rfl, rfl⟩ ⟨by decide, by decide, pd_X7_within⟩ ⟨Nat.le_of_ble_eq_true rfl, Nat.le_of_ble_eq_true rfl⟩ ⟨Nat.zero_le _, Nat.zero_le _⟩ (Nat.le_of_ble_eq_true rfl) dX7_ifSet_24 rfl (fun v9 h24 hq9 => ?_)
      obtain ⟨r24, rfl, hw⟩ := hq9
      refine aw_if_eq (pc := 27) (tgt := 34) C dX7_ifSet_27 (by decide) (fun hc9 => ?_) (fun hc9 => ?_)
      · have hw := hw.1 hc9
        refine aw_sub [(0, vR a0), (1, vI a1), (2, vI a2), (3, vI a3)] ⟨rfl, rfl, rfl, rfl, trivial⟩ ?_
        exact J_34  _ hw
      · have hw := hw.2 hc9
        refine aw_iconst (pc := 30) C dX7_ifSet_30 (i := (0 : Int)) (by decide) ?_
        refine aw_goto (pc := 31) (tgt := 35) C dX7_ifSet_31 (by decide) ?_
        refine aw_sub [(0, vR a0), (1, vI a1), (2, vI a2), (3, vI a3)] ⟨rfl, rfl, rfl, rfl, trivial⟩ ?_
        exact J_35 _ _ hw
  · have hw := hw.2 hc9
    refine aw_iconst (pc := 8) C dX7_ifSet_8 (i := (1 : Int)) (by decide) ?_
    refine aw_goto (pc := 9) (tgt := 35) C dX7_ifSet_9 (by decide) ?_
    refine aw_sub [(0, vR a0), (1, vI a1), (2, vI a2), (3, vI a3)] ⟨rfl, rfl, rfl, rfl, trivial⟩ ?_
    exact J_35 _ _ hw
theorem dX7_bestNow_0 : decode cX7_bestNow 0 = .ok (.aload_n 0, 1) := by decide +kernel
theorem dX7_bestNow_1 : decode cX7_bestNow 1 = .ok (.iconst 4, 1) := by decide +kernel
theorem dX7_bestNow_2 : decode cX7_bestNow 2 = .ok (.invokevirtual 73, 3) := by decide +kernel
theorem dX7_bestNow_5 : decode cX7_bestNow 5 = .ok (.istore_n 1, 1) := by decide +kernel
theorem dX7_bestNow_6 : decode cX7_bestNow 6 = .ok (.aload_n 0, 1) := by decide +kernel
theorem dX7_bestNow_7 : decode cX7_bestNow 7 = .ok (.iconst 5, 1) := by decide +kernel
theorem dX7_bestNow_8 : decode cX7_bestNow 8 = .ok (.invokevirtual 73, 3) := by decide +kernel
theorem dX7_bestNow_11 : decode cX7_bestNow 11 = .ok (.istore_n 2, 1) := by decide +kernel
theorem dX7_bestNow_12 : decode cX7_bestNow 12 = .ok (.iconst (-1), 1) := by decide +kernel
theorem dX7_bestNow_13 : decode cX7_bestNow 13 = .ok (.istore_n 3, 1) := by decide +kernel
theorem dX7_bestNow_14 : decode cX7_bestNow 14 = .ok (.iconst 0, 1) := by decide +kernel
theorem dX7_bestNow_15 : decode cX7_bestNow 15 = .ok (.istore 4, 2) := by decide +kernel
theorem dX7_bestNow_17 : decode cX7_bestNow 17 = .ok (.iconst 0, 1) := by decide +kernel
theorem dX7_bestNow_18 : decode cX7_bestNow 18 = .ok (.istore 5, 2) := by decide +kernel
theorem dX7_bestNow_20 : decode cX7_bestNow 20 = .ok (.iconst 0, 1) := by decide +kernel
theorem dX7_bestNow_21 : decode cX7_bestNow 21 = .ok (.istore 6, 2) := by decide +kernel
theorem dX7_bestNow_23 : decode cX7_bestNow 23 = .ok (.iload 6, 2) := by decide +kernel
theorem dX7_bestNow_25 : decode cX7_bestNow 25 = .ok (.bipush 30, 2) := by decide +kernel
theorem dX7_bestNow_27 : decode cX7_bestNow 27 = .ok (.if_icmp .ge 90, 3) := by decide +kernel
theorem dX7_bestNow_30 : decode cX7_bestNow 30 = .ok (.aload_n 0, 1) := by decide +kernel
theorem dX7_bestNow_31 : decode cX7_bestNow 31 = .ok (.getfield 7, 3) := by decide +kernel
theorem dX7_bestNow_34 : decode cX7_bestNow 34 = .ok (.sipush 164, 3) := by decide +kernel
theorem dX7_bestNow_37 : decode cX7_bestNow 37 = .ok (.iload 6, 2) := by decide +kernel
theorem dX7_bestNow_39 : decode cX7_bestNow 39 = .ok (.bipush 10, 2) := by decide +kernel
theorem dX7_bestNow_41 : decode cX7_bestNow 41 = .ok (.idiv, 1) := by decide +kernel
theorem dX7_bestNow_42 : decode cX7_bestNow 42 = .ok (.iastore, 1) := by decide +kernel
theorem dX7_bestNow_43 : decode cX7_bestNow 43 = .ok (.aload_n 0, 1) := by decide +kernel
theorem dX7_bestNow_44 : decode cX7_bestNow 44 = .ok (.getfield 7, 3) := by decide +kernel
theorem dX7_bestNow_47 : decode cX7_bestNow 47 = .ok (.sipush 165, 3) := by decide +kernel
theorem dX7_bestNow_50 : decode cX7_bestNow 50 = .ok (.iload 6, 2) := by decide +kernel
theorem dX7_bestNow_52 : decode cX7_bestNow 52 = .ok (.bipush 10, 2) := by decide +kernel
theorem dX7_bestNow_54 : decode cX7_bestNow 54 = .ok (.irem, 1) := by decide +kernel
theorem dX7_bestNow_55 : decode cX7_bestNow 55 = .ok (.iastore, 1) := by decide +kernel
theorem dX7_bestNow_56 : decode cX7_bestNow 56 = .ok (.aload_n 0, 1) := by decide +kernel
theorem dX7_bestNow_57 : decode cX7_bestNow 57 = .ok (.invokevirtual 131, 3) := by decide +kernel
theorem dX7_bestNow_60 : decode cX7_bestNow 60 = .ok (.aload_n 0, 1) := by decide +kernel
theorem dX7_bestNow_61 : decode cX7_bestNow 61 = .ok (.bipush 11, 2) := by decide +kernel
theorem dX7_bestNow_63 : decode cX7_bestNow 63 = .ok (.invokevirtual 204, 3) := by decide +kernel
theorem dX7_bestNow_66 : decode cX7_bestNow 66 = .ok (.istore 7, 2) := by decide +kernel
theorem dX7_bestNow_68 : decode cX7_bestNow 68 = .ok (.iload_n 3, 1) := by decide +kernel
theorem dX7_bestNow_69 : decode cX7_bestNow 69 = .ok (.iconst (-1), 1) := by decide +kernel
theorem dX7_bestNow_70 : decode cX7_bestNow 70 = .ok (.if_icmp .eq 28, 3) := by decide +kernel
theorem dX7_bestNow_73 : decode cX7_bestNow 73 = .ok (.aload_n 0, 1) := by decide +kernel
theorem dX7_bestNow_74 : decode cX7_bestNow 74 = .ok (.invokevirtual 173, 3) := by decide +kernel
theorem dX7_bestNow_77 : decode cX7_bestNow 77 = .ok (.iload 4, 2) := by decide +kernel
theorem dX7_bestNow_79 : decode cX7_bestNow 79 = .ok (.if_icmp .lt 19, 3) := by decide +kernel
theorem dX7_bestNow_82 : decode cX7_bestNow 82 = .ok (.aload_n 0, 1) := by decide +kernel
theorem dX7_bestNow_83 : decode cX7_bestNow 83 = .ok (.invokevirtual 173, 3) := by decide +kernel
theorem dX7_bestNow_86 : decode cX7_bestNow 86 = .ok (.iload 4, 2) := by decide +kernel
theorem dX7_bestNow_88 : decode cX7_bestNow 88 = .ok (.if_icmp .ne 23, 3) := by decide +kernel
theorem dX7_bestNow_91 : decode cX7_bestNow 91 = .ok (.iload 7, 2) := by decide +kernel
theorem dX7_bestNow_93 : decode cX7_bestNow 93 = .ok (.iload 5, 2) := by decide +kernel
theorem dX7_bestNow_95 : decode cX7_bestNow 95 = .ok (.if_icmp .ge 16, 3) := by decide +kernel
theorem dX7_bestNow_98 : decode cX7_bestNow 98 = .ok (.iload 6, 2) := by decide +kernel
theorem dX7_bestNow_100 : decode cX7_bestNow 100 = .ok (.istore_n 3, 1) := by decide +kernel
theorem dX7_bestNow_101 : decode cX7_bestNow 101 = .ok (.aload_n 0, 1) := by decide +kernel
theorem dX7_bestNow_102 : decode cX7_bestNow 102 = .ok (.invokevirtual 173, 3) := by decide +kernel
theorem dX7_bestNow_105 : decode cX7_bestNow 105 = .ok (.istore 4, 2) := by decide +kernel
theorem dX7_bestNow_107 : decode cX7_bestNow 107 = .ok (.iload 7, 2) := by decide +kernel
theorem dX7_bestNow_109 : decode cX7_bestNow 109 = .ok (.istore 5, 2) := by decide +kernel
theorem dX7_bestNow_111 : decode cX7_bestNow 111 = .ok (.iinc 6 1, 3) := by decide +kernel
theorem dX7_bestNow_114 : decode cX7_bestNow 114 = .ok (.goto (-91), 3) := by decide +kernel
theorem dX7_bestNow_117 : decode cX7_bestNow 117 = .ok (.aload_n 0, 1) := by decide +kernel
theorem dX7_bestNow_118 : decode cX7_bestNow 118 = .ok (.getfield 7, 3) := by decide +kernel
theorem dX7_bestNow_121 : decode cX7_bestNow 121 = .ok (.sipush 164, 3) := by decide +kernel
theorem dX7_bestNow_124 : decode cX7_bestNow 124 = .ok (.iload_n 1, 1) := by decide +kernel
theorem dX7_bestNow_125 : decode cX7_bestNow 125 = .ok (.iastore, 1) := by decide +kernel
theorem dX7_bestNow_126 : decode cX7_bestNow 126 = .ok (.aload_n 0, 1) := by decide +kernel
theorem dX7_bestNow_127 : decode cX7_bestNow 127 = .ok (.getfield 7, 3) := by decide +kernel
theorem dX7_bestNow_130 : decode cX7_bestNow 130 = .ok (.sipush 165, 3) := by decide +kernel
theorem dX7_bestNow_133 : decode cX7_bestNow 133 = .ok (.iload_n 2, 1) := by decide +kernel
theorem dX7_bestNow_134 : decode cX7_bestNow 134 = .ok (.iastore, 1) := by decide +kernel
theorem dX7_bestNow_135 : decode cX7_bestNow 135 = .ok (.iload_n 3, 1) := by decide +kernel
theorem dX7_bestNow_136 : decode cX7_bestNow 136 = .ok (.ireturn, 1) := by decide +kernel
theorem pd_X7_bestNow : (parseMethodDescriptor yX7_bestNow.desc).map (fun d => d.parameters.length) = some 0 := by decide +kernel
def w_X7_bestNow (zz : Nat → Nat) (a0 : Nat) (h : AH) (Q : Int → AH → Prop) : Prop := okA h a0 7 ∧ w_X7_of zz a0 (4 : Int) h (fun (r2 : Int) (h2 : AH) => okA h2 a0 7 ∧ w_X7_of zz a0 (5 : Int) h2 (fun (r8 : Int) (h8 : AH) => ∃ I_23 : Nat → Int → Int → Int → Int → AH → Prop, (∃ n, I_23 n (-1 : Int) (0 : Int) (0 : Int) (0 : Int) h8) ∧ ∀ (n_23 : Nat) (x3_23 : Int) (x4_23 : Int) (x5_23 : Int) (x6_23 : Int) (h_23 : AH), I_23 n_23 x3_23 x4_23 x5_23 x6_23 h_23 → ((((30 : Int) ≤ x6_23) → okA h_23 a0 7 ∧ ∃ b118 : Nat, hfR h_23 a0 1 = some b118 ∧ okW h_23 b118 (164 : Int) ∧ ∀ h125 : AH, h125 = saI h_23 b118 (u1 (haI h_23 b118) (164 : Int) r2) → okA h125 a0 7 ∧ ∃ b127 : Nat, hfR h125 a0 1 = some b127 ∧ okW h125 b127 (165 : Int) ∧ ∀ h134 : AH, h134 = saI h125 b127 (u1 (haI h125 b127) (165 : Int) r8) → Q x3_23 h134) ∧ ((¬ ((30 : Int) ≤ x6_23)) → okA h_23 a0 7 ∧ ∃ b31 : Nat, hfR h_23 a0 1 = some b31 ∧ (0 ≤ x6_23 ∧ 0 < (10 : Int)) ∧ okW h_23 b31 (164 : Int) ∧ ∀ h42 : AH, h42 = saI h_23 b31 (u1 (haI h_23 b31) (164 : Int) (x6_23 / (10 : Int))) → okA h42 a0 7 ∧ ∃ b44 : Nat, hfR h42 a0 1 = some b44 ∧ (0 ≤ x6_23 ∧ 0 < (10 : Int)) ∧ okW h42 b44 (165 : Int) ∧ ∀ h55 : AH, h55 = saI h42 b44 (u1 (haI h42 b44) (165 : Int) (x6_23 % (10 : Int))) → okA h55 a0 7 ∧ w_X7_layFrames zz a0 h55 (fun  (h57 : AH) => okA h57 a0 7 ∧ w_X7_sumOf zz a0 (11 : Int) h57 (fun (r63 : Int) (h63 : AH) => jn (fun (x3_111 : Int) (x4_111 : Int) (x5_111 : Int) (h_111 : AH) => inR (x6_23 + 1) ∧ ∀ x6_111 : Int, x6_111 = (x6_23 + 1) → ∃ m, m < n_23 ∧ I_23 m x3_111 x4_111 x5_111 x6_111 h_111) (fun k_111 : Int → Int → Int → AH → Prop => jn (fun  (h_98 : AH) => okA h_98 a0 7 ∧ w_X7_frames zz a0 h_98 (fun (r102 : Int) (h102 : AH) => k_111 x6_23 r102 r63 h102)) (fun k_98 : AH → Prop => ((x3_23 = (-1 : Int)) → k_98  h63) ∧ ((¬ (x3_23 = (-1 : Int))) → okA h63 a0 7 ∧ w_X7_frames zz a0 h63 (fun (r74 : Int) (h74 : AH) => ((r74 < x4_23) → k_98  h74) ∧ ((¬ (r74 < x4_23)) → okA h74 a0 7 ∧ w_X7_frames zz a0 h74 (fun (r83 : Int) (h83 : AH) => ((¬ r83 = x4_23) → k_111 x3_23 x4_23 x5_23 h83) ∧ ((r83 = x4_23) → ((x5_23 ≤ r63) → k_111 x3_23 x4_23 x5_23 h83) ∧ ((¬ (x5_23 ≤ r63)) → k_98  h83))))))))))))))
set_option maxRecDepth 100000 in
set_option maxHeartbeats 4000000 in
theorem met_X7_bestNow (G : GG) (l : Launch) : ∀ (As : List Value) (a0 : Nat) (h : AH) (Q : Int → AH → Prop), As.map ab = List.map some ([vR a0] : List AV) → w_X7_bestNow G.2.2 a0 h Q → Met l yX7_bestNow (.code yX7_bestNow cX7_bestNow 8 (some .int) :: xTb) ({ frames := 4, cells := 0, slots := 0, locals := 90 } : Room) (PcA G As h) (QG G (oI Q)) 0 0 (frA G) := by
  intro As a0 h Q hA hw
  refine met_of hA (by decide) (Nat.le_of_ble_eq_true rfl) (fun p e s m args below meth c C hml hr hnm => ?_)
  unfold w_X7_bestNow at hw
  refine aw_aload_n (pc := 0) C dX7_bestNow_0 rfl rfl ?_
  refine aw_iconst (pc := 1) C dX7_bestNow_1 (i := (4 : Int)) (by decide) ?_
  obtain ⟨hp9, hw⟩ := hw
  refine aw_callV (pc := 2) (as := [vI (4 : Int)]) C ci7 (fun As hA => met_X7_of G l As a0 (4 : Int) _ _ hA hw) tw945 tw947 (tbp 46 (n := 21) (by decide +kernel)) tw10 tw948 ⟨rfl, rfl⟩ ⟨rfl, by decide, by decide, pd_X7_of⟩ ⟨Nat.le_of_ble_eq_true rfl, Nat.le_of_ble_eq_true rfl⟩ ⟨Nat.zero_le _, Nat.zero_le _⟩ (Nat.le_of_ble_eq_true rfl) dX7_bestNow_2 rfl hp9 (fun v9 h2 hq9 => ?_)
  obtain ⟨r2, rfl, hw⟩ := hq9
  refine aw_istore_n (pc := 5) C dX7_bestNow_5 rfl (by rw [hml]; decide) ?_
  refine aw_aload_n (pc := 6) C dX7_bestNow_6 rfl rfl ?_
  refine aw_iconst (pc := 7) C dX7_bestNow_7 (i := (5 : Int)) (by decide) ?_
  obtain ⟨hp9, hw⟩ := hw
  refine aw_callV (pc := 8) (as := [vI (5 : Int)]) C ci7 (fun As hA => met_X7_of G l As a0 (5 : Int) _ _ hA hw) tw945 tw947 (tbp 46 (n := 21) (by decide +kernel)) tw10 tw948 ⟨rfl, rfl⟩ ⟨rfl, by decide, by decide, pd_X7_of⟩ ⟨Nat.le_of_ble_eq_true rfl, Nat.le_of_ble_eq_true rfl⟩ ⟨Nat.zero_le _, Nat.zero_le _⟩ (Nat.le_of_ble_eq_true rfl) dX7_bestNow_8 rfl hp9 (fun v9 h8 hq9 => ?_)
  obtain ⟨r8, rfl, hw⟩ := hq9
  refine aw_istore_n (pc := 11) C dX7_bestNow_11 rfl (by rw [hml]; decide) ?_
  refine aw_iconst (pc := 12) C dX7_bestNow_12 (i := (-1 : Int)) (by decide) ?_
  refine aw_istore_n (pc := 13) C dX7_bestNow_13 rfl (by rw [hml]; decide) ?_
  refine aw_iconst (pc := 14) C dX7_bestNow_14 (i := (0 : Int)) (by decide) ?_
  refine aw_istore (pc := 15) C dX7_bestNow_15 (by rw [hml]; decide) ?_
  refine aw_iconst (pc := 17) C dX7_bestNow_17 (i := (0 : Int)) (by decide) ?_
  refine aw_istore (pc := 18) C dX7_bestNow_18 (by rw [hml]; decide) ?_
  refine aw_iconst (pc := 20) C dX7_bestNow_20 (i := (0 : Int)) (by decide) ?_
  refine aw_istore (pc := 21) C dX7_bestNow_21 (by rw [hml]; decide) ?_
  obtain ⟨I_23, ⟨n9, hi9⟩, hst9⟩ := hw
  have L_23 : ∀ (n_23 : Nat) (x3_23 : Int) (x4_23 : Int) (x5_23 : Int) (x6_23 : Int) (h_23 : AH), I_23 n_23 x3_23 x4_23 x5_23 x6_23 h_23 → AW G p l e ({ frames := 4, cells := 0, slots := 0, locals := 90 } : Room) s m args below meth c 0 0 (MQ below (QG G (oI Q)) args s 0 0 (frA G)) 23 (eOf [(0, vR a0), (1, vI r2), (2, vI r8), (3, vI x3_23), (4, vI x4_23), (5, vI x5_23), (6, vI x6_23)]) [] h_23 := by
    intro n_23
    induction n_23 using Nat.strongRecOn with
    | _ n_23 ih_23 =>
    intro x3_23 x4_23 x5_23 x6_23 h_23 hi9
    have hw := hst9 n_23 x3_23 x4_23 x5_23 x6_23 h_23 hi9
    refine aw_iload (pc := 23) C dX7_bestNow_23 rfl ?_
    refine aw_bipush (pc := 25) C dX7_bestNow_25 (i := (30 : Int)) (by decide) ?_
    refine aw_icmp_ge (pc := 27) (tgt := 117) C dX7_bestNow_27 (by decide) (fun hc9 => ?_) (fun hc9 => ?_)
    · have hw := hw.1 hc9
      refine aw_aload_n (pc := 117) C dX7_bestNow_117 rfl rfl ?_
      obtain ⟨hp9, b118, hb9, hw⟩ := hw
      refine aw_getR (pc := 118) C (ci := 7) (k := 1) ci7 (by decide) tw793 dX7_bestNow_118 rfl hp9 hb9 ?_
      refine aw_sipush (pc := 121) C dX7_bestNow_121 (i := (164 : Int)) (by decide) ?_
      refine aw_iload_n (pc := 124) C dX7_bestNow_124 rfl rfl ?_
      obtain ⟨⟨k9, hp9⟩, hw⟩ := hw
      refine aw_iast (pc := 125) C dX7_bestNow_125 hp9 (aw_nmH (fun h125 e9 => ?_))
      have hw := hw h125 e9
      refine aw_aload_n (pc := 126) C dX7_bestNow_126 rfl rfl ?_
      obtain ⟨hp9, b127, hb9, hw⟩ := hw
      refine aw_getR (pc := 127) C (ci := 7) (k := 1) ci7 (by decide) tw793 dX7_bestNow_127 rfl hp9 hb9 ?_
      refine aw_sipush (pc := 130) C dX7_bestNow_130 (i := (165 : Int)) (by decide) ?_
      refine aw_iload_n (pc := 133) C dX7_bestNow_133 rfl rfl ?_
      obtain ⟨⟨k9, hp9⟩, hw⟩ := hw
      refine aw_iast (pc := 134) C dX7_bestNow_134 hp9 (aw_nmH (fun h134 e9 => ?_))
      have hw := hw h134 e9
      refine aw_iload_n (pc := 135) C dX7_bestNow_135 rfl rfl ?_
      exact aw_iret (pc := 136) C hr dX7_bestNow_136 ⟨Nat.le_of_ble_eq_true rfl, Nat.le_of_ble_eq_true rfl⟩ ⟨_, rfl, hw⟩
    · have hw := hw.2 hc9
      refine aw_aload_n (pc := 30) C dX7_bestNow_30 rfl rfl ?_
      obtain ⟨hp9, b31, hb9, hw⟩ := hw
      refine aw_getR (pc := 31) C (ci := 7) (k := 1) ci7 (by decide) tw793 dX7_bestNow_31 rfl hp9 hb9 ?_
      refine aw_sipush (pc := 34) C dX7_bestNow_34 (i := (164 : Int)) (by decide) ?_
      refine aw_iload (pc := 37) C dX7_bestNow_37 rfl ?_
      refine aw_bipush (pc := 39) C dX7_bestNow_39 (i := (10 : Int)) (by decide) ?_
      obtain ⟨hp9, hw⟩ := hw
      refine aw_idiv (pc := 41) C dX7_bestNow_41 hp9 ?_
      obtain ⟨⟨k9, hp9⟩, hw⟩ := hw
      refine aw_iast (pc := 42) C dX7_bestNow_42 hp9 (aw_nmH (fun h42 e9 => ?_))
      have hw := hw h42 e9
      refine aw_aload_n (pc := 43) C dX7_bestNow_43 rfl rfl ?_
      obtain ⟨hp9, b44, hb9, hw⟩ := hw
      refine aw_getR (pc := 44) C (ci := 7) (k := 1) ci7 (by decide) tw793 dX7_bestNow_44 rfl hp9 hb9 ?_
      refine aw_sipush (pc := 47) C dX7_bestNow_47 (i := (165 : Int)) (by decide) ?_
      refine aw_iload (pc := 50) C dX7_bestNow_50 rfl ?_
      refine aw_bipush (pc := 52) C dX7_bestNow_52 (i := (10 : Int)) (by decide) ?_
      obtain ⟨hp9, hw⟩ := hw
      refine aw_irem (pc := 54) C dX7_bestNow_54 hp9 ?_
      obtain ⟨⟨k9, hp9⟩, hw⟩ := hw
      refine aw_iast (pc := 55) C dX7_bestNow_55 hp9 (aw_nmH (fun h55 e9 => ?_))
      have hw := hw h55 e9
      refine aw_aload_n (pc := 56) C dX7_bestNow_56 rfl rfl ?_
      obtain ⟨hp9, hw⟩ := hw
      refine aw_callV (pc := 57) (as := []) C ci7 (fun As hA => met_X7_layFrames G l As a0 _ _ hA hw) tw949 tw951 (tbp 47 (n := 21) (by decide +kernel)) tw10 tw952 ⟨rfl, rfl⟩ ⟨rfl, by decide, by decide, pd_X7_layFrames⟩ ⟨Nat.le_of_ble_eq_true rfl, Nat.le_of_ble_eq_true rfl⟩ ⟨Nat.zero_le _, Nat.zero_le _⟩ (Nat.le_of_ble_eq_true rfl) dX7_bestNow_57 rfl hp9 (fun v9 h57 hq9 => ?_)
      obtain ⟨rfl, hw⟩ := hq9
      refine aw_aload_n (pc := 60) C dX7_bestNow_60 rfl rfl ?_
      refine aw_bipush (pc := 61) C dX7_bestNow_61 (i := (11 : Int)) (by decide) ?_
      obtain ⟨hp9, hw⟩ := hw
      refine aw_callV (pc := 63) (as := [vI (11 : Int)]) C ci7 (fun As hA => met_X7_sumOf G l As a0 (11 : Int) _ _ hA hw) tw1077 tw1079 (tbp 69 (n := 21) (by decide +kernel)) tw10 tw1080 ⟨rfl, rfl⟩ ⟨rfl, by decide, by decide, pd_X7_sumOf⟩ ⟨Nat.le_of_ble_eq_true rfl, Nat.le_of_ble_eq_true rfl⟩ ⟨Nat.zero_le _, Nat.zero_le _⟩ (Nat.le_of_ble_eq_true rfl) dX7_bestNow_63 rfl hp9 (fun v9 h63 hq9 => ?_)
      obtain ⟨r63, rfl, hw⟩ := hq9
      refine aw_istore (pc := 66) C dX7_bestNow_66 (by rw [hml]; decide) ?_
      refine aw_iload_n (pc := 68) C dX7_bestNow_68 rfl rfl ?_
      refine aw_iconst (pc := 69) C dX7_bestNow_69 (i := (-1 : Int)) (by decide) ?_
      obtain ⟨k_111, hk_111, hw⟩ := jn_out hw
      have J_111 : ∀ (x3_111 : Int) (x4_111 : Int) (x5_111 : Int) (h_111 : AH), k_111 x3_111 x4_111 x5_111 h_111 → AW G p l e ({ frames := 4, cells := 0, slots := 0, locals := 90 } : Room) s m args below meth c 0 0 (MQ below (QG G (oI Q)) args s 0 0 (frA G)) 111 (eOf [(0, vR a0), (1, vI r2), (2, vI r8), (3, vI x3_111), (4, vI x4_111), (5, vI x5_111), (6, vI x6_23)]) [] h_111 := by
        intro x3_111 x4_111 x5_111 h_111 hw
        rw [hk_111] at hw
        obtain ⟨hp9, hw⟩ := hw
        refine aw_iincN (pc := 111) C dX7_bestNow_111 (k := 1) (by decide) rfl (by rw [hml]; decide) hp9 (fun x6_111 e9 => ?_)
        have hw := hw x6_111 e9
        refine aw_goto (pc := 114) (tgt := 23) C dX7_bestNow_114 (by decide) ?_
        obtain ⟨m9, hm9, hw⟩ := hw
        refine aw_sub [(0, vR a0), (1, vI r2), (2, vI r8), (3, vI x3_111), (4, vI x4_111), (5, vI x5_111), (6, vI x6_111)] ⟨rfl, rfl, rfl, rfl, rfl, rfl, rfl, trivial⟩ ?_
        exact ih_23 m9 hm9 _ _ _ _ _ hw
      obtain ⟨k_98, hk_98, hw⟩ := jn_out hw
      have J_98 : ∀  (h_98 : AH), k_98  h_98 → AW G p l e ({ frames := 4, cells := 0, slots := 0, locals := 90 } : Room) s m args below meth c 0 0 (MQ below (QG G (oI Q)) args s 0 0 (frA G)) 98 (eOf [(0, vR a0), (1, vI r2), (2, vI r8), (6, vI x6_23), (7, vI r63)]) [] h_98 := by
        intro  h_98 hw
        rw [hk_98] at hw
        refine aw_iload (pc := 98) C dX7_bestNow_98 rfl ?_
        refine aw_istore_n (pc := 100) C dX7_bestNow_100 rfl (by rw [hml]; decide) ?_
        refine aw_aload_n (pc := 101) C dX7_bestNow_101 rfl rfl ?_
        obtain ⟨hp9, hw⟩ := hw
        refine aw_callV (pc := 102) (as := []) C ci7 (fun As hA => met_X7_frames G l As a0 _ _ hA hw) tw985 tw987 (tbp 56 (n := 21) (by decide +kernel)) tw10 tw988 ⟨rfl, rfl⟩ ⟨rfl, by decide, by decide, pd_X7_frames⟩ ⟨Nat.le_of_ble_eq_true rfl, Nat.le_of_ble_eq_true rfl⟩ ⟨Nat.zero_le _, Nat.zero_le _⟩ (Nat.le_of_ble_eq_true rfl) dX7_bestNow_102 rfl hp9 (fun v9 h102 hq9 => ?_)
        obtain ⟨r102, rfl, hw⟩ := hq9
        refine aw_istore (pc := 105) C dX7_bestNow_105 (by rw [hml]; decide) ?_
        refine aw_iload (pc := 107) C dX7_bestNow_107 rfl ?_
        refine aw_istore (pc := 109) C dX7_bestNow_109 (by rw [hml]; decide) ?_
        refine aw_sub [(0, vR a0), (1, vI r2), (2, vI r8), (3, vI x6_23), (4, vI r102), (5, vI r63), (6, vI x6_23)] ⟨rfl, rfl, rfl, rfl, rfl, rfl, rfl, trivial⟩ ?_
        exact J_111 _ _ _ _ hw
      refine aw_icmp_eq (pc := 70) (tgt := 98) C dX7_bestNow_70 (by decide) (fun hc9 => ?_) (fun hc9 => ?_)
      · have hw := hw.1 hc9
        refine aw_sub [(0, vR a0), (1, vI r2), (2, vI r8), (6, vI x6_23), (7, vI r63)] ⟨rfl, rfl, rfl, rfl, rfl, trivial⟩ ?_
        exact J_98  _ hw
      · have hw := hw.2 hc9
        refine aw_aload_n (pc := 73) C dX7_bestNow_73 rfl rfl ?_
        obtain ⟨hp9, hw⟩ := hw
        refine aw_callV (pc := 74) (as := []) C ci7 (fun As hA => met_X7_frames G l As a0 _ _ hA hw) tw985 tw987 (tbp 56 (n := 21) (by decide +kernel)) tw10 tw988 ⟨rfl, rfl⟩ ⟨rfl, by decide, by decide, pd_X7_frames⟩ ⟨Nat.le_of_ble_eq_true rfl, Nat.le_of_ble_eq_true rfl⟩ ⟨Nat.zero_le _, Nat.zero_le _⟩ (Nat.le_of_ble_eq_true rfl) dX7_bestNow_74 rfl hp9 (fun v9 h74 hq9 => ?_)
        obtain ⟨r74, rfl, hw⟩ := hq9
        refine aw_iload (pc := 77) C dX7_bestNow_77 rfl ?_
        refine aw_icmp_lt (pc := 79) (tgt := 98) C dX7_bestNow_79 (by decide) (fun hc9 => ?_) (fun hc9 => ?_)
        · have hw := hw.1 hc9
          refine aw_sub [(0, vR a0), (1, vI r2), (2, vI r8), (6, vI x6_23), (7, vI r63)] ⟨rfl, rfl, rfl, rfl, rfl, trivial⟩ ?_
          exact J_98  _ hw
        · have hw := hw.2 hc9
          refine aw_aload_n (pc := 82) C dX7_bestNow_82 rfl rfl ?_
          obtain ⟨hp9, hw⟩ := hw
          refine aw_callV (pc := 83) (as := []) C ci7 (fun As hA => met_X7_frames G l As a0 _ _ hA hw) tw985 tw987 (tbp 56 (n := 21) (by decide +kernel)) tw10 tw988 ⟨rfl, rfl⟩ ⟨rfl, by decide, by decide, pd_X7_frames⟩ ⟨Nat.le_of_ble_eq_true rfl, Nat.le_of_ble_eq_true rfl⟩ ⟨Nat.zero_le _, Nat.zero_le _⟩ (Nat.le_of_ble_eq_true rfl) dX7_bestNow_83 rfl hp9 (fun v9 h83 hq9 => ?_)
          obtain ⟨r83, rfl, hw⟩ := hq9
          refine aw_iload (pc := 86) C dX7_bestNow_86 rfl ?_
          refine aw_icmp_ne (pc := 88) (tgt := 111) C dX7_bestNow_88 (by decide) (fun hc9 => ?_) (fun hc9 => ?_)
          · have hw := hw.1 hc9
            refine aw_sub [(0, vR a0), (1, vI r2), (2, vI r8), (3, vI x3_23), (4, vI x4_23), (5, vI x5_23), (6, vI x6_23)] ⟨rfl, rfl, rfl, rfl, rfl, rfl, rfl, trivial⟩ ?_
            exact J_111 _ _ _ _ hw
          · have hw := hw.2 hc9
            refine aw_iload (pc := 91) C dX7_bestNow_91 rfl ?_
            refine aw_iload (pc := 93) C dX7_bestNow_93 rfl ?_
            refine aw_icmp_ge (pc := 95) (tgt := 111) C dX7_bestNow_95 (by decide) (fun hc9 => ?_) (fun hc9 => ?_)
            · have hw := hw.1 hc9
              refine aw_sub [(0, vR a0), (1, vI r2), (2, vI r8), (3, vI x3_23), (4, vI x4_23), (5, vI x5_23), (6, vI x6_23)] ⟨rfl, rfl, rfl, rfl, rfl, rfl, rfl, trivial⟩ ?_
              exact J_111 _ _ _ _ hw
            · have hw := hw.2 hc9
              refine aw_sub [(0, vR a0), (1, vI r2), (2, vI r8), (6, vI x6_23), (7, vI r63)] ⟨rfl, rfl, rfl, rfl, rfl, trivial⟩ ?_
              exact J_98  _ hw
  refine aw_sub [(0, vR a0), (1, vI r2), (2, vI r8), (3, vI (-1 : Int)), (4, vI (0 : Int)), (5, vI (0 : Int)), (6, vI (0 : Int))] ⟨rfl, rfl, rfl, rfl, rfl, rfl, rfl, trivial⟩ ?_
  exact L_23 n9 _ _ _ _ _ hi9
theorem dX7_best_0 : decode cX7_best 0 = .ok (.aload_n 0, 1) := by decide +kernel
theorem dX7_best_1 : decode cX7_best 1 = .ok (.iconst 0, 1) := by decide +kernel
theorem dX7_best_2 : decode cX7_best 2 = .ok (.putfield 61, 3) := by decide +kernel
theorem dX7_best_5 : decode cX7_best 5 = .ok (.aload_n 0, 1) := by decide +kernel
theorem dX7_best_6 : decode cX7_best 6 = .ok (.invokevirtual 170, 3) := by decide +kernel
theorem dX7_best_9 : decode cX7_best 9 = .ok (.aload_n 0, 1) := by decide +kernel
theorem dX7_best_10 : decode cX7_best 10 = .ok (.invokevirtual 213, 3) := by decide +kernel
theorem dX7_best_13 : decode cX7_best 13 = .ok (.ireturn, 1) := by decide +kernel
theorem pd_X7_best : (parseMethodDescriptor yX7_best.desc).map (fun d => d.parameters.length) = some 0 := by decide +kernel
def w_X7_best (zz : Nat → Nat) (a0 : Nat) (h : AH) (Q : Int → AH → Prop) : Prop := okP h a0 7 ∧ ∀ h2 : AH, h2 = sfI h a0 0 (0 : Int) → okA h2 a0 7 ∧ w_X7_lay zz a0 h2 (fun  (h6 : AH) => okA h6 a0 7 ∧ w_X7_bestNow zz a0 h6 (fun (r10 : Int) (h10 : AH) => Q r10 h10))
set_option maxRecDepth 100000 in
set_option maxHeartbeats 4000000 in
theorem met_X7_best (G : GG) (l : Launch) : ∀ (As : List Value) (a0 : Nat) (h : AH) (Q : Int → AH → Prop), As.map ab = List.map some ([vR a0] : List AV) → w_X7_best G.2.2 a0 h Q → Met l yX7_best (.code yX7_best cX7_best 1 (some .int) :: xTb) ({ frames := 5, cells := 0, slots := 0, locals := 117 } : Room) (PcA G As h) (QG G (oI Q)) 0 0 (frA G) := by
  intro As a0 h Q hA hw
  refine met_of hA (by decide) (Nat.le_of_ble_eq_true rfl) (fun p e s m args below meth c C hml hr hnm => ?_)
  unfold w_X7_best at hw
  refine aw_aload_n (pc := 0) C dX7_best_0 rfl rfl ?_
  refine aw_iconst (pc := 1) C dX7_best_1 (i := (0 : Int)) (by decide) ?_
  obtain ⟨hp9, hw⟩ := hw
  refine aw_putI (pc := 2) C (ci := 7) (k := 0) ci7 (by decide) tw792 (Or.inl rfl) dX7_best_2 rfl hp9 (aw_nmH (fun h2 e9 => ?_))
  have hw := hw h2 e9
  refine aw_aload_n (pc := 5) C dX7_best_5 rfl rfl ?_
  obtain ⟨hp9, hw⟩ := hw
  refine aw_callV (pc := 6) (as := []) C ci7 (fun As hA => met_X7_lay G l As a0 _ _ hA hw) tw910 tw912 (tbp 38 (n := 21) (by decide +kernel)) tw10 tw913 ⟨rfl, rfl⟩ ⟨rfl, by decide, by decide, pd_X7_lay⟩ ⟨Nat.le_of_ble_eq_true rfl, Nat.le_of_ble_eq_true rfl⟩ ⟨Nat.zero_le _, Nat.zero_le _⟩ (Nat.le_of_ble_eq_true rfl) dX7_best_6 rfl hp9 (fun v9 h6 hq9 => ?_)
  obtain ⟨rfl, hw⟩ := hq9
  refine aw_aload_n (pc := 9) C dX7_best_9 rfl rfl ?_
  obtain ⟨hp9, hw⟩ := hw
  refine aw_callV (pc := 10) (as := []) C ci7 (fun As hA => met_X7_bestNow G l As a0 _ _ hA hw) tw1097 tw1099 (tbp 71 (n := 21) (by decide +kernel)) tw10 tw1100 ⟨rfl, rfl⟩ ⟨rfl, by decide, by decide, pd_X7_bestNow⟩ ⟨Nat.le_of_ble_eq_true rfl, Nat.le_of_ble_eq_true rfl⟩ ⟨Nat.zero_le _, Nat.zero_le _⟩ (Nat.le_of_ble_eq_true rfl) dX7_best_10 rfl hp9 (fun v9 h10 hq9 => ?_)
  obtain ⟨r10, rfl, hw⟩ := hq9
  exact aw_iret (pc := 13) C hr dX7_best_13 ⟨Nat.le_of_ble_eq_true rfl, Nat.le_of_ble_eq_true rfl⟩ ⟨_, rfl, hw⟩
theorem dX7_likenessNow_0 : decode cX7_likenessNow 0 = .ok (.aload_n 0, 1) := by decide +kernel
theorem dX7_likenessNow_1 : decode cX7_likenessNow 1 = .ok (.getfield 19, 3) := by decide +kernel
theorem dX7_likenessNow_4 : decode cX7_likenessNow 4 = .ok (.iconst 0, 1) := by decide +kernel
theorem dX7_likenessNow_5 : decode cX7_likenessNow 5 = .ok (.iaload, 1) := by decide +kernel
theorem dX7_likenessNow_6 : decode cX7_likenessNow 6 = .ok (.aload_n 0, 1) := by decide +kernel
theorem dX7_likenessNow_7 : decode cX7_likenessNow 7 = .ok (.getfield 19, 3) := by decide +kernel
theorem dX7_likenessNow_10 : decode cX7_likenessNow 10 = .ok (.iconst 1, 1) := by decide +kernel
theorem dX7_likenessNow_11 : decode cX7_likenessNow 11 = .ok (.iaload, 1) := by decide +kernel
theorem dX7_likenessNow_12 : decode cX7_likenessNow 12 = .ok (.iadd, 1) := by decide +kernel
theorem dX7_likenessNow_13 : decode cX7_likenessNow 13 = .ok (.istore_n 1, 1) := by decide +kernel
theorem dX7_likenessNow_14 : decode cX7_likenessNow 14 = .ok (.iload_n 1, 1) := by decide +kernel
theorem dX7_likenessNow_15 : decode cX7_likenessNow 15 = .ok (.ifCond .ne 7, 3) := by decide +kernel
theorem dX7_likenessNow_18 : decode cX7_likenessNow 18 = .ok (.dconst 1, 1) := by decide +kernel
theorem dX7_likenessNow_19 : decode cX7_likenessNow 19 = .ok (.goto 17, 3) := by decide +kernel
theorem dX7_likenessNow_22 : decode cX7_likenessNow 22 = .ok (.ldc2_w 216, 3) := by decide +kernel
theorem dX7_likenessNow_25 : decode cX7_likenessNow 25 = .ok (.aload_n 0, 1) := by decide +kernel
theorem dX7_likenessNow_26 : decode cX7_likenessNow 26 = .ok (.iconst 0, 1) := by decide +kernel
theorem dX7_likenessNow_27 : decode cX7_likenessNow 27 = .ok (.iconst 1, 1) := by decide +kernel
theorem dX7_likenessNow_28 : decode cX7_likenessNow 28 = .ok (.invokevirtual 98, 3) := by decide +kernel
theorem dX7_likenessNow_31 : decode cX7_likenessNow 31 = .ok (.i2d, 1) := by decide +kernel
theorem dX7_likenessNow_32 : decode cX7_likenessNow 32 = .ok (.dmul, 1) := by decide +kernel
theorem dX7_likenessNow_33 : decode cX7_likenessNow 33 = .ok (.iload_n 1, 1) := by decide +kernel
theorem dX7_likenessNow_34 : decode cX7_likenessNow 34 = .ok (.i2d, 1) := by decide +kernel
theorem dX7_likenessNow_35 : decode cX7_likenessNow 35 = .ok (.ddiv, 1) := by decide +kernel
theorem dX7_likenessNow_36 : decode cX7_likenessNow 36 = .ok (.dreturn, 1) := by decide +kernel
theorem pd_X7_likenessNow : (parseMethodDescriptor yX7_likenessNow.desc).map (fun d => d.parameters.length) = some 0 := by decide +kernel
def w_X7_likenessNow (zz : Nat → Nat) (a0 : Nat) (h : AH) (Q : UInt64 → AH → Prop) : Prop := okA h a0 7 ∧ ∃ b1 : Nat, hfR h a0 6 = some b1 ∧ okI h b1 (0 : Int) ∧ okA h a0 7 ∧ ∃ b7 : Nat, hfR h a0 6 = some b7 ∧ okI h b7 (1 : Int) ∧ inR ((haI h b1 (0 : Int)) + (haI h b7 (1 : Int))) ∧ ∀ x1_13 : Int, x1_13 = ((haI h b1 (0 : Int)) + (haI h b7 (1 : Int))) → jn (fun (t0_36 : UInt64) (h_36 : AH) => Q t0_36 h_36) (fun k_36 : UInt64 → AH → Prop => ((¬ x1_13 = 0) → okA h a0 7 ∧ w_X7_ofKind zz a0 (0 : Int) (1 : Int) h (fun (r28 : Int) (h28 : AH) => vf_n64 (FP.dmul (4611686018427387904 : UInt64) (FP.i2d (Int32.ofInt r28))) ∧ vf_n64 (FP.ddiv (FP.dmul (4611686018427387904 : UInt64) (FP.i2d (Int32.ofInt r28))) (FP.i2d (Int32.ofInt x1_13))) ∧ k_36 (FP.ddiv (FP.dmul (4611686018427387904 : UInt64) (FP.i2d (Int32.ofInt r28))) (FP.i2d (Int32.ofInt x1_13))) h28)) ∧ ((x1_13 = 0) → k_36 FP.dconst1 h))
set_option maxRecDepth 100000 in
set_option maxHeartbeats 4000000 in
theorem met_X7_likenessNow (G : GG) (l : Launch) : ∀ (As : List Value) (a0 : Nat) (h : AH) (Q : UInt64 → AH → Prop), As.map ab = List.map some ([vR a0] : List AV) → w_X7_likenessNow G.2.2 a0 h Q → Met l yX7_likenessNow (.code yX7_likenessNow cX7_likenessNow 2 (some .double) :: xTb) ({ frames := 1, cells := 0, slots := 0, locals := 24 } : Room) (PcA G As h) (QG G (oD Q)) 0 0 (frA G) := by
  intro As a0 h Q hA hw
  refine met_of hA (by decide) (Nat.le_of_ble_eq_true rfl) (fun p e s m args below meth c C hml hr hnm => ?_)
  unfold w_X7_likenessNow at hw
  refine aw_aload_n (pc := 0) C dX7_likenessNow_0 rfl rfl ?_
  obtain ⟨hp9, b1, hb9, hw⟩ := hw
  refine aw_getR (pc := 1) C (ci := 7) (k := 6) ci7 (by decide) tw798 dX7_likenessNow_1 rfl hp9 hb9 ?_
  refine aw_iconst (pc := 4) C dX7_likenessNow_4 (i := (0 : Int)) (by decide) ?_
  obtain ⟨⟨k9, hp9⟩, hw⟩ := hw
  refine aw_iald (pc := 5) C dX7_likenessNow_5 hp9 ?_
  refine aw_aload_n (pc := 6) C dX7_likenessNow_6 rfl rfl ?_
  obtain ⟨hp9, b7, hb9, hw⟩ := hw
  refine aw_getR (pc := 7) C (ci := 7) (k := 6) ci7 (by decide) tw798 dX7_likenessNow_7 rfl hp9 hb9 ?_
  refine aw_iconst (pc := 10) C dX7_likenessNow_10 (i := (1 : Int)) (by decide) ?_
  obtain ⟨⟨k9, hp9⟩, hw⟩ := hw
  refine aw_iald (pc := 11) C dX7_likenessNow_11 hp9 ?_
  obtain ⟨hp9, hw⟩ := hw
  refine aw_iadd (pc := 12) C dX7_likenessNow_12 hp9 ?_
  refine aw_nmI (fun x1_13 e9 => ?_)
  have hw := hw x1_13 e9
  refine aw_istore_n (pc := 13) C dX7_likenessNow_13 rfl (by rw [hml]; decide) ?_
  refine aw_iload_n (pc := 14) C dX7_likenessNow_14 rfl rfl ?_
  obtain ⟨k_36, hk_36, hw⟩ := jn_out hw
  have J_36 : ∀ (t0_36 : UInt64) (h_36 : AH), k_36 t0_36 h_36 → AW G p l e ({ frames := 1, cells := 0, slots := 0, locals := 24 } : Room) s m args below meth c 0 0 (MQ below (QG G (oD Q)) args s 0 0 (frA G)) 36 (eOf []) [vD t0_36] h_36 := by
    intro t0_36 h_36 hw
    rw [hk_36] at hw
    exact aw_dret (pc := 36) C hr dX7_likenessNow_36 ⟨Nat.le_of_ble_eq_true rfl, Nat.le_of_ble_eq_true rfl⟩ ⟨_, rfl, hw⟩
  refine aw_if_ne (pc := 15) (tgt := 22) C dX7_likenessNow_15 (by decide) (fun hc9 => ?_) (fun hc9 => ?_)
  · have hw := hw.1 hc9
    refine aw_ldc2d (pc := 22) C tw1109 dX7_likenessNow_22 ?_
    refine aw_aload_n (pc := 25) C dX7_likenessNow_25 rfl rfl ?_
    refine aw_iconst (pc := 26) C dX7_likenessNow_26 (i := (0 : Int)) (by decide) ?_
    refine aw_iconst (pc := 27) C dX7_likenessNow_27 (i := (1 : Int)) (by decide) ?_
    obtain ⟨hp9, hw⟩ := hw
    refine aw_callV (pc := 28) (as := [vI (0 : Int), vI (1 : Int)]) C ci7 (fun As hA => met_X7_ofKind G l As a0 (0 : Int) (1 : Int) _ _ hA hw) tw953 tw955 (tbp 48 (n := 21) (by decide +kernel)) tw10 tw956 ⟨rfl, rfl⟩ ⟨rfl, by decide, by decide, pd_X7_ofKind⟩ ⟨Nat.le_of_ble_eq_true rfl, Nat.le_of_ble_eq_true rfl⟩ ⟨Nat.zero_le _, Nat.zero_le _⟩ (Nat.le_of_ble_eq_true rfl) dX7_likenessNow_28 rfl hp9 (fun v9 h28 hq9 => ?_)
    obtain ⟨r28, rfl, hw⟩ := hq9
    refine aw_i2d (pc := 31) C dX7_likenessNow_31  ?_
    obtain ⟨hp9, hw⟩ := hw
    refine aw_dmul (pc := 32) C dX7_likenessNow_32 hp9 ?_
    refine aw_iload_n (pc := 33) C dX7_likenessNow_33 rfl rfl ?_
    refine aw_i2d (pc := 34) C dX7_likenessNow_34  ?_
    obtain ⟨hp9, hw⟩ := hw
    refine aw_ddiv (pc := 35) C dX7_likenessNow_35 hp9 ?_
    refine aw_sub [] trivial ?_
    exact J_36 _ _ hw
  · have hw := hw.2 hc9
    refine aw_dconst1 (pc := 18) C dX7_likenessNow_18  ?_
    refine aw_goto (pc := 19) (tgt := 36) C dX7_likenessNow_19 (by decide) ?_
    refine aw_sub [] trivial ?_
    exact J_36 _ _ hw
theorem dX7_likeness_0 : decode cX7_likeness 0 = .ok (.aload_n 0, 1) := by decide +kernel
theorem dX7_likeness_1 : decode cX7_likeness 1 = .ok (.iconst 0, 1) := by decide +kernel
theorem dX7_likeness_2 : decode cX7_likeness 2 = .ok (.putfield 61, 3) := by decide +kernel
theorem dX7_likeness_5 : decode cX7_likeness 5 = .ok (.aload_n 0, 1) := by decide +kernel
theorem dX7_likeness_6 : decode cX7_likeness 6 = .ok (.invokevirtual 170, 3) := by decide +kernel
theorem dX7_likeness_9 : decode cX7_likeness 9 = .ok (.aload_n 0, 1) := by decide +kernel
theorem dX7_likeness_10 : decode cX7_likeness 10 = .ok (.invokevirtual 218, 3) := by decide +kernel
theorem dX7_likeness_13 : decode cX7_likeness 13 = .ok (.dreturn, 1) := by decide +kernel
theorem pd_X7_likeness : (parseMethodDescriptor yX7_likeness.desc).map (fun d => d.parameters.length) = some 0 := by decide +kernel
def w_X7_likeness (zz : Nat → Nat) (a0 : Nat) (h : AH) (Q : UInt64 → AH → Prop) : Prop := okP h a0 7 ∧ ∀ h2 : AH, h2 = sfI h a0 0 (0 : Int) → okA h2 a0 7 ∧ w_X7_lay zz a0 h2 (fun  (h6 : AH) => okA h6 a0 7 ∧ w_X7_likenessNow zz a0 h6 (fun (r10 : UInt64) (h10 : AH) => Q r10 h10))
set_option maxRecDepth 100000 in
set_option maxHeartbeats 4000000 in
theorem met_X7_likeness (G : GG) (l : Launch) : ∀ (As : List Value) (a0 : Nat) (h : AH) (Q : UInt64 → AH → Prop), As.map ab = List.map some ([vR a0] : List AV) → w_X7_likeness G.2.2 a0 h Q → Met l yX7_likeness (.code yX7_likeness cX7_likeness 1 (some .double) :: xTb) ({ frames := 5, cells := 0, slots := 0, locals := 117 } : Room) (PcA G As h) (QG G (oD Q)) 0 0 (frA G) := by
  intro As a0 h Q hA hw
  refine met_of hA (by decide) (Nat.le_of_ble_eq_true rfl) (fun p e s m args below meth c C hml hr hnm => ?_)
  unfold w_X7_likeness at hw
  refine aw_aload_n (pc := 0) C dX7_likeness_0 rfl rfl ?_
  refine aw_iconst (pc := 1) C dX7_likeness_1 (i := (0 : Int)) (by decide) ?_
  obtain ⟨hp9, hw⟩ := hw
  refine aw_putI (pc := 2) C (ci := 7) (k := 0) ci7 (by decide) tw792 (Or.inl rfl) dX7_likeness_2 rfl hp9 (aw_nmH (fun h2 e9 => ?_))
  have hw := hw h2 e9
  refine aw_aload_n (pc := 5) C dX7_likeness_5 rfl rfl ?_
  obtain ⟨hp9, hw⟩ := hw
  refine aw_callV (pc := 6) (as := []) C ci7 (fun As hA => met_X7_lay G l As a0 _ _ hA hw) tw910 tw912 (tbp 38 (n := 21) (by decide +kernel)) tw10 tw913 ⟨rfl, rfl⟩ ⟨rfl, by decide, by decide, pd_X7_lay⟩ ⟨Nat.le_of_ble_eq_true rfl, Nat.le_of_ble_eq_true rfl⟩ ⟨Nat.zero_le _, Nat.zero_le _⟩ (Nat.le_of_ble_eq_true rfl) dX7_likeness_6 rfl hp9 (fun v9 h6 hq9 => ?_)
  obtain ⟨rfl, hw⟩ := hq9
  refine aw_aload_n (pc := 9) C dX7_likeness_9 rfl rfl ?_
  obtain ⟨hp9, hw⟩ := hw
  refine aw_callV (pc := 10) (as := []) C ci7 (fun As hA => met_X7_likenessNow G l As a0 _ _ hA hw) tw1105 tw1107 (tbp 72 (n := 21) (by decide +kernel)) tw10 tw1108 ⟨rfl, rfl⟩ ⟨rfl, by decide, by decide, pd_X7_likenessNow⟩ ⟨Nat.le_of_ble_eq_true rfl, Nat.le_of_ble_eq_true rfl⟩ ⟨Nat.zero_le _, Nat.zero_le _⟩ (Nat.le_of_ble_eq_true rfl) dX7_likeness_10 rfl hp9 (fun v9 h10 hq9 => ?_)
  obtain ⟨r10, rfl, hw⟩ := hq9
  exact aw_dret (pc := 13) C hr dX7_likeness_13 ⟨Nat.le_of_ble_eq_true rfl, Nat.le_of_ble_eq_true rfl⟩ ⟨_, rfl, hw⟩
theorem dX7_mix_0 : decode cX7_mix 0 = .ok (.aload_n 0, 1) := by decide +kernel
theorem dX7_mix_1 : decode cX7_mix 1 = .ok (.ldc2_w 222, 3) := by decide +kernel
theorem dX7_mix_4 : decode cX7_mix 4 = .ok (.aload_n 0, 1) := by decide +kernel
theorem dX7_mix_5 : decode cX7_mix 5 = .ok (.getfield 224, 3) := by decide +kernel
theorem dX7_mix_8 : decode cX7_mix 8 = .ok (.lmul, 1) := by decide +kernel
theorem dX7_mix_9 : decode cX7_mix 9 = .ok (.lload_n 1, 1) := by decide +kernel
theorem dX7_mix_10 : decode cX7_mix 10 = .ok (.ladd, 1) := by decide +kernel
theorem dX7_mix_11 : decode cX7_mix 11 = .ok (.putfield 224, 3) := by decide +kernel
theorem dX7_mix_14 : decode cX7_mix 14 = .ok (.return_, 1) := by decide +kernel
theorem pd_X7_mix : (parseMethodDescriptor yX7_mix.desc).map (fun d => d.parameters.length) = some 1 := by decide +kernel
def w_X7_mix (zz : Nat → Nat) (a0 : Nat) (a1 : Int64) (h : AH) (Q : AH → Prop) : Prop := okA h a0 7 ∧ okP h a0 7 ∧ ∀ h11 : AH, h11 = sfL h a0 20 (((31 : Int64) * (hfL h a0 20)) + a1) → Q h11
set_option maxRecDepth 100000 in
set_option maxHeartbeats 4000000 in
theorem met_X7_mix (G : GG) (l : Launch) : ∀ (As : List Value) (a0 : Nat) (a1 : Int64) (h : AH) (Q : AH → Prop), As.map ab = List.map some ([vR a0, vL a1] : List AV) → w_X7_mix G.2.2 a0 a1 h Q → Met l yX7_mix (.code yX7_mix cX7_mix 3 none :: xTb) ({ frames := 0, cells := 0, slots := 0, locals := 0 } : Room) (PcA G As h) (QG G (oV Q)) 0 0 (frA G) := by
  intro As a0 a1 h Q hA hw
  refine met_of hA (by decide) (Nat.le_of_ble_eq_true rfl) (fun p e s m args below meth c C hml hr hnm => ?_)
  unfold w_X7_mix at hw
  refine aw_aload_n (pc := 0) C dX7_mix_0 rfl rfl ?_
  refine aw_ldc2 (pc := 1) C tw1119 dX7_mix_1 ?_
  refine aw_aload_n (pc := 4) C dX7_mix_4 rfl rfl ?_
  obtain ⟨hp9, hw⟩ := hw
  refine aw_getL (pc := 5) C (ci := 7) (k := 20) ci7 (by decide) tw812 dX7_mix_5 rfl hp9 ?_
  refine aw_lmul (pc := 8) C dX7_mix_8  ?_
  refine aw_lload_n (pc := 9) C dX7_mix_9 rfl rfl ?_
  refine aw_ladd (pc := 10) C dX7_mix_10  ?_
  obtain ⟨hp9, hw⟩ := hw
  refine aw_putL (pc := 11) C (ci := 7) (k := 20) ci7 (by decide) tw812 (Or.inl rfl) dX7_mix_11 rfl hp9 (aw_nmH (fun h11 e9 => ?_))
  have hw := hw h11 e9
  exact aw_vret (pc := 14) C hr dX7_mix_14 ⟨Nat.le_of_ble_eq_true rfl, Nat.le_of_ble_eq_true rfl⟩ ⟨rfl, hw⟩
theorem dX7_mixFrames_0 : decode cX7_mixFrames 0 = .ok (.iconst 0, 1) := by decide +kernel
theorem dX7_mixFrames_1 : decode cX7_mixFrames 1 = .ok (.istore_n 1, 1) := by decide +kernel
theorem dX7_mixFrames_2 : decode cX7_mixFrames 2 = .ok (.iload_n 1, 1) := by decide +kernel
theorem dX7_mixFrames_3 : decode cX7_mixFrames 3 = .ok (.iconst 2, 1) := by decide +kernel
theorem dX7_mixFrames_4 : decode cX7_mixFrames 4 = .ok (.if_icmp .ge 48, 3) := by decide +kernel
theorem dX7_mixFrames_7 : decode cX7_mixFrames 7 = .ok (.iconst 0, 1) := by decide +kernel
theorem dX7_mixFrames_8 : decode cX7_mixFrames 8 = .ok (.istore_n 2, 1) := by decide +kernel
theorem dX7_mixFrames_9 : decode cX7_mixFrames 9 = .ok (.iload_n 2, 1) := by decide +kernel
theorem dX7_mixFrames_10 : decode cX7_mixFrames 10 = .ok (.bipush 6, 2) := by decide +kernel
theorem dX7_mixFrames_12 : decode cX7_mixFrames 12 = .ok (.aload_n 0, 1) := by decide +kernel
theorem dX7_mixFrames_13 : decode cX7_mixFrames 13 = .ok (.getfield 19, 3) := by decide +kernel
theorem dX7_mixFrames_16 : decode cX7_mixFrames 16 = .ok (.iload_n 1, 1) := by decide +kernel
theorem dX7_mixFrames_17 : decode cX7_mixFrames 17 = .ok (.iaload, 1) := by decide +kernel
theorem dX7_mixFrames_18 : decode cX7_mixFrames 18 = .ok (.imul, 1) := by decide +kernel
theorem dX7_mixFrames_19 : decode cX7_mixFrames 19 = .ok (.if_icmp .ge 27, 3) := by decide +kernel
theorem dX7_mixFrames_22 : decode cX7_mixFrames 22 = .ok (.aload_n 0, 1) := by decide +kernel
theorem dX7_mixFrames_23 : decode cX7_mixFrames 23 = .ok (.aload_n 0, 1) := by decide +kernel
theorem dX7_mixFrames_24 : decode cX7_mixFrames 24 = .ok (.iload_n 1, 1) := by decide +kernel
theorem dX7_mixFrames_25 : decode cX7_mixFrames 25 = .ok (.iload_n 2, 1) := by decide +kernel
theorem dX7_mixFrames_26 : decode cX7_mixFrames 26 = .ok (.bipush 6, 2) := by decide +kernel
theorem dX7_mixFrames_28 : decode cX7_mixFrames 28 = .ok (.idiv, 1) := by decide +kernel
theorem dX7_mixFrames_29 : decode cX7_mixFrames 29 = .ok (.iload_n 2, 1) := by decide +kernel
theorem dX7_mixFrames_30 : decode cX7_mixFrames 30 = .ok (.bipush 6, 2) := by decide +kernel
theorem dX7_mixFrames_32 : decode cX7_mixFrames 32 = .ok (.irem, 1) := by decide +kernel
theorem dX7_mixFrames_33 : decode cX7_mixFrames 33 = .ok (.invokevirtual 182, 3) := by decide +kernel
theorem dX7_mixFrames_36 : decode cX7_mixFrames 36 = .ok (.i2l, 1) := by decide +kernel
theorem dX7_mixFrames_37 : decode cX7_mixFrames 37 = .ok (.invokevirtual 228, 3) := by decide +kernel
theorem dX7_mixFrames_40 : decode cX7_mixFrames 40 = .ok (.iinc 2 1, 3) := by decide +kernel
theorem dX7_mixFrames_43 : decode cX7_mixFrames 43 = .ok (.goto (-34), 3) := by decide +kernel
theorem dX7_mixFrames_46 : decode cX7_mixFrames 46 = .ok (.iinc 1 1, 3) := by decide +kernel
theorem dX7_mixFrames_49 : decode cX7_mixFrames 49 = .ok (.goto (-47), 3) := by decide +kernel
theorem dX7_mixFrames_52 : decode cX7_mixFrames 52 = .ok (.iconst 0, 1) := by decide +kernel
theorem dX7_mixFrames_53 : decode cX7_mixFrames 53 = .ok (.istore_n 1, 1) := by decide +kernel
theorem dX7_mixFrames_54 : decode cX7_mixFrames 54 = .ok (.iload_n 1, 1) := by decide +kernel
theorem dX7_mixFrames_55 : decode cX7_mixFrames 55 = .ok (.iconst 3, 1) := by decide +kernel
theorem dX7_mixFrames_56 : decode cX7_mixFrames 56 = .ok (.aload_n 0, 1) := by decide +kernel
theorem dX7_mixFrames_57 : decode cX7_mixFrames 57 = .ok (.getfield 19, 3) := by decide +kernel
theorem dX7_mixFrames_60 : decode cX7_mixFrames 60 = .ok (.iconst 0, 1) := by decide +kernel
theorem dX7_mixFrames_61 : decode cX7_mixFrames 61 = .ok (.iaload, 1) := by decide +kernel
theorem dX7_mixFrames_62 : decode cX7_mixFrames 62 = .ok (.imul, 1) := by decide +kernel
theorem dX7_mixFrames_63 : decode cX7_mixFrames 63 = .ok (.if_icmp .ge 24, 3) := by decide +kernel
theorem dX7_mixFrames_66 : decode cX7_mixFrames 66 = .ok (.aload_n 0, 1) := by decide +kernel
theorem dX7_mixFrames_67 : decode cX7_mixFrames 67 = .ok (.aload_n 0, 1) := by decide +kernel
theorem dX7_mixFrames_68 : decode cX7_mixFrames 68 = .ok (.iload_n 1, 1) := by decide +kernel
theorem dX7_mixFrames_69 : decode cX7_mixFrames 69 = .ok (.iconst 3, 1) := by decide +kernel
theorem dX7_mixFrames_70 : decode cX7_mixFrames 70 = .ok (.idiv, 1) := by decide +kernel
theorem dX7_mixFrames_71 : decode cX7_mixFrames 71 = .ok (.iload_n 1, 1) := by decide +kernel
theorem dX7_mixFrames_72 : decode cX7_mixFrames 72 = .ok (.iconst 3, 1) := by decide +kernel
theorem dX7_mixFrames_73 : decode cX7_mixFrames 73 = .ok (.irem, 1) := by decide +kernel
theorem dX7_mixFrames_74 : decode cX7_mixFrames 74 = .ok (.invokevirtual 189, 3) := by decide +kernel
theorem dX7_mixFrames_77 : decode cX7_mixFrames 77 = .ok (.i2l, 1) := by decide +kernel
theorem dX7_mixFrames_78 : decode cX7_mixFrames 78 = .ok (.invokevirtual 228, 3) := by decide +kernel
theorem dX7_mixFrames_81 : decode cX7_mixFrames 81 = .ok (.iinc 1 1, 3) := by decide +kernel
theorem dX7_mixFrames_84 : decode cX7_mixFrames 84 = .ok (.goto (-30), 3) := by decide +kernel
theorem dX7_mixFrames_87 : decode cX7_mixFrames 87 = .ok (.aload_n 0, 1) := by decide +kernel
theorem dX7_mixFrames_88 : decode cX7_mixFrames 88 = .ok (.invokevirtual 173, 3) := by decide +kernel
theorem dX7_mixFrames_91 : decode cX7_mixFrames 91 = .ok (.istore_n 1, 1) := by decide +kernel
theorem dX7_mixFrames_92 : decode cX7_mixFrames 92 = .ok (.iconst 0, 1) := by decide +kernel
theorem dX7_mixFrames_93 : decode cX7_mixFrames 93 = .ok (.istore_n 2, 1) := by decide +kernel
theorem dX7_mixFrames_94 : decode cX7_mixFrames 94 = .ok (.iload_n 2, 1) := by decide +kernel
theorem dX7_mixFrames_95 : decode cX7_mixFrames 95 = .ok (.iload_n 1, 1) := by decide +kernel
theorem dX7_mixFrames_96 : decode cX7_mixFrames 96 = .ok (.if_icmp .ge 33, 3) := by decide +kernel
theorem dX7_mixFrames_99 : decode cX7_mixFrames 99 = .ok (.iconst 0, 1) := by decide +kernel
theorem dX7_mixFrames_100 : decode cX7_mixFrames 100 = .ok (.istore_n 3, 1) := by decide +kernel
theorem dX7_mixFrames_101 : decode cX7_mixFrames 101 = .ok (.iload_n 3, 1) := by decide +kernel
theorem dX7_mixFrames_102 : decode cX7_mixFrames 102 = .ok (.iconst 5, 1) := by decide +kernel
theorem dX7_mixFrames_103 : decode cX7_mixFrames 103 = .ok (.if_icmp .ge 20, 3) := by decide +kernel
theorem dX7_mixFrames_106 : decode cX7_mixFrames 106 = .ok (.aload_n 0, 1) := by decide +kernel
theorem dX7_mixFrames_107 : decode cX7_mixFrames 107 = .ok (.aload_n 0, 1) := by decide +kernel
theorem dX7_mixFrames_108 : decode cX7_mixFrames 108 = .ok (.iload_n 2, 1) := by decide +kernel
theorem dX7_mixFrames_109 : decode cX7_mixFrames 109 = .ok (.iload_n 3, 1) := by decide +kernel
theorem dX7_mixFrames_110 : decode cX7_mixFrames 110 = .ok (.invokevirtual 201, 3) := by decide +kernel
theorem dX7_mixFrames_113 : decode cX7_mixFrames 113 = .ok (.i2l, 1) := by decide +kernel
theorem dX7_mixFrames_114 : decode cX7_mixFrames 114 = .ok (.invokevirtual 228, 3) := by decide +kernel
theorem dX7_mixFrames_117 : decode cX7_mixFrames 117 = .ok (.iinc 3 1, 3) := by decide +kernel
theorem dX7_mixFrames_120 : decode cX7_mixFrames 120 = .ok (.goto (-19), 3) := by decide +kernel
theorem dX7_mixFrames_123 : decode cX7_mixFrames 123 = .ok (.iinc 2 1, 3) := by decide +kernel
theorem dX7_mixFrames_126 : decode cX7_mixFrames 126 = .ok (.goto (-32), 3) := by decide +kernel
theorem dX7_mixFrames_129 : decode cX7_mixFrames 129 = .ok (.iconst 0, 1) := by decide +kernel
theorem dX7_mixFrames_130 : decode cX7_mixFrames 130 = .ok (.istore_n 2, 1) := by decide +kernel
theorem dX7_mixFrames_131 : decode cX7_mixFrames 131 = .ok (.iload_n 2, 1) := by decide +kernel
theorem dX7_mixFrames_132 : decode cX7_mixFrames 132 = .ok (.bipush 80, 2) := by decide +kernel
theorem dX7_mixFrames_134 : decode cX7_mixFrames 134 = .ok (.if_icmp .ge 24, 3) := by decide +kernel
theorem dX7_mixFrames_137 : decode cX7_mixFrames 137 = .ok (.aload_n 0, 1) := by decide +kernel
theorem dX7_mixFrames_138 : decode cX7_mixFrames 138 = .ok (.aload_n 0, 1) := by decide +kernel
theorem dX7_mixFrames_139 : decode cX7_mixFrames 139 = .ok (.iload_n 1, 1) := by decide +kernel
theorem dX7_mixFrames_140 : decode cX7_mixFrames 140 = .ok (.iconst 1, 1) := by decide +kernel
theorem dX7_mixFrames_141 : decode cX7_mixFrames 141 = .ok (.isub, 1) := by decide +kernel
theorem dX7_mixFrames_142 : decode cX7_mixFrames 142 = .ok (.iconst 2, 1) := by decide +kernel
theorem dX7_mixFrames_143 : decode cX7_mixFrames 143 = .ok (.idiv, 1) := by decide +kernel
theorem dX7_mixFrames_144 : decode cX7_mixFrames 144 = .ok (.iload_n 2, 1) := by decide +kernel
theorem dX7_mixFrames_145 : decode cX7_mixFrames 145 = .ok (.invokevirtual 195, 3) := by decide +kernel
theorem dX7_mixFrames_148 : decode cX7_mixFrames 148 = .ok (.i2l, 1) := by decide +kernel
theorem dX7_mixFrames_149 : decode cX7_mixFrames 149 = .ok (.invokevirtual 228, 3) := by decide +kernel
theorem dX7_mixFrames_152 : decode cX7_mixFrames 152 = .ok (.iinc 2 1, 3) := by decide +kernel
theorem dX7_mixFrames_155 : decode cX7_mixFrames 155 = .ok (.goto (-24), 3) := by decide +kernel
theorem dX7_mixFrames_158 : decode cX7_mixFrames 158 = .ok (.return_, 1) := by decide +kernel
theorem pd_X7_mixFrames : (parseMethodDescriptor yX7_mixFrames.desc).map (fun d => d.parameters.length) = some 0 := by decide +kernel
def w_X7_mixFrames (zz : Nat → Nat) (a0 : Nat) (h : AH) (Q : AH → Prop) : Prop := ∃ I_2 : Nat → Int → AH → Prop, (∃ n, I_2 n (0 : Int) h) ∧ ∀ (n_2 : Nat) (x1_2 : Int) (h_2 : AH), I_2 n_2 x1_2 h_2 → ((((2 : Int) ≤ x1_2) → ∃ I_54 : Nat → Int → AH → Prop, (∃ n, I_54 n (0 : Int) h_2) ∧ ∀ (n_54 : Nat) (x1_54 : Int) (h_54 : AH), I_54 n_54 x1_54 h_54 → (okA h_54 a0 7 ∧ ∃ b57 : Nat, hfR h_54 a0 6 = some b57 ∧ okI h_54 b57 (0 : Int) ∧ inR ((3 : Int) * (haI h_54 b57 (0 : Int))) ∧ ((((3 : Int) * (haI h_54 b57 (0 : Int))) ≤ x1_54) → okA h_54 a0 7 ∧ w_X7_frames zz a0 h_54 (fun (r88 : Int) (h88 : AH) => ∃ I_94 : Nat → Int → AH → Prop, (∃ n, I_94 n (0 : Int) h88) ∧ ∀ (n_94 : Nat) (x2_94 : Int) (h_94 : AH), I_94 n_94 x2_94 h_94 → (((r88 ≤ x2_94) → ∃ I_131 : Nat → Int → AH → Prop, (∃ n, I_131 n (0 : Int) h_94) ∧ ∀ (n_131 : Nat) (x2_131 : Int) (h_131 : AH), I_131 n_131 x2_131 h_131 → ((((80 : Int) ≤ x2_131) → Q h_131) ∧ ((¬ ((80 : Int) ≤ x2_131)) → inR (r88 - (1 : Int)) ∧ (0 ≤ (r88 - (1 : Int)) ∧ 0 < (2 : Int)) ∧ okA h_131 a0 7 ∧ w_X7_shown zz a0 ((r88 - (1 : Int)) / (2 : Int)) x2_131 h_131 (fun (r145 : Int) (h145 : AH) => okA h145 a0 7 ∧ w_X7_mix zz a0 (Int64.ofInt r145) h145 (fun  (h149 : AH) => inR (x2_131 + 1) ∧ ∀ x2_152 : Int, x2_152 = (x2_131 + 1) → ∃ m, m < n_131 ∧ I_131 m x2_152 h149))))) ∧ ((¬ (r88 ≤ x2_94)) → ∃ I_101 : Nat → Int → AH → Prop, (∃ n, I_101 n (0 : Int) h_94) ∧ ∀ (n_101 : Nat) (x3_101 : Int) (h_101 : AH), I_101 n_101 x3_101 h_101 → ((((5 : Int) ≤ x3_101) → inR (x2_94 + 1) ∧ ∀ x2_123 : Int, x2_123 = (x2_94 + 1) → ∃ m, m < n_94 ∧ I_94 m x2_123 h_101) ∧ ((¬ ((5 : Int) ≤ x3_101)) → okA h_101 a0 7 ∧ w_X7_frameNow zz a0 x2_94 x3_101 h_101 (fun (r110 : Int) (h110 : AH) => okA h110 a0 7 ∧ w_X7_mix zz a0 (Int64.ofInt r110) h110 (fun  (h114 : AH) => inR (x3_101 + 1) ∧ ∀ x3_117 : Int, x3_117 = (x3_101 + 1) → ∃ m, m < n_101 ∧ I_101 m x3_117 h114)))))))) ∧ ((¬ (((3 : Int) * (haI h_54 b57 (0 : Int))) ≤ x1_54)) → (0 ≤ x1_54 ∧ 0 < (3 : Int)) ∧ (0 ≤ x1_54 ∧ 0 < (3 : Int)) ∧ okA h_54 a0 7 ∧ w_X7_wayNow zz a0 (x1_54 / (3 : Int)) (x1_54 % (3 : Int)) h_54 (fun (r74 : Int) (h74 : AH) => okA h74 a0 7 ∧ w_X7_mix zz a0 (Int64.ofInt r74) h74 (fun  (h78 : AH) => inR (x1_54 + 1) ∧ ∀ x1_81 : Int, x1_81 = (x1_54 + 1) → ∃ m, m < n_54 ∧ I_54 m x1_81 h78))))) ∧ ((¬ ((2 : Int) ≤ x1_2)) → ∃ I_9 : Nat → Int → AH → Prop, (∃ n, I_9 n (0 : Int) h_2) ∧ ∀ (n_9 : Nat) (x2_9 : Int) (h_9 : AH), I_9 n_9 x2_9 h_9 → (okA h_9 a0 7 ∧ ∃ b13 : Nat, hfR h_9 a0 6 = some b13 ∧ okI h_9 b13 x1_2 ∧ inR ((6 : Int) * (haI h_9 b13 x1_2)) ∧ ((((6 : Int) * (haI h_9 b13 x1_2)) ≤ x2_9) → inR (x1_2 + 1) ∧ ∀ x1_46 : Int, x1_46 = (x1_2 + 1) → ∃ m, m < n_2 ∧ I_2 m x1_46 h_9) ∧ ((¬ (((6 : Int) * (haI h_9 b13 x1_2)) ≤ x2_9)) → (0 ≤ x2_9 ∧ 0 < (6 : Int)) ∧ (0 ≤ x2_9 ∧ 0 < (6 : Int)) ∧ okA h_9 a0 7 ∧ w_X7_letterNow zz a0 x1_2 (x2_9 / (6 : Int)) (x2_9 % (6 : Int)) h_9 (fun (r33 : Int) (h33 : AH) => okA h33 a0 7 ∧ w_X7_mix zz a0 (Int64.ofInt r33) h33 (fun  (h37 : AH) => inR (x2_9 + 1) ∧ ∀ x2_40 : Int, x2_40 = (x2_9 + 1) → ∃ m, m < n_9 ∧ I_9 m x2_40 h37))))))
set_option maxRecDepth 100000 in
set_option maxHeartbeats 4000000 in
theorem met_X7_mixFrames (G : GG) (l : Launch) : ∀ (As : List Value) (a0 : Nat) (h : AH) (Q : AH → Prop), As.map ab = List.map some ([vR a0] : List AV) → w_X7_mixFrames G.2.2 a0 h Q → Met l yX7_mixFrames (.code yX7_mixFrames cX7_mixFrames 4 none :: xTb) ({ frames := 6, cells := 0, slots := 0, locals := 138 } : Room) (PcA G As h) (QG G (oV Q)) 0 0 (frA G) := by
  intro As a0 h Q hA hw
  refine met_of hA (by decide) (Nat.le_of_ble_eq_true rfl) (fun p e s m args below meth c C hml hr hnm => ?_)
  unfold w_X7_mixFrames at hw
  refine aw_iconst (pc := 0) C dX7_mixFrames_0 (i := (0 : Int)) (by decide) ?_
  refine aw_istore_n (pc := 1) C dX7_mixFrames_1 rfl (by rw [hml]; decide) ?_
  obtain ⟨I_2, ⟨n9, hi9⟩, hst9⟩ := hw
  have L_2 : ∀ (n_2 : Nat) (x1_2 : Int) (h_2 : AH), I_2 n_2 x1_2 h_2 → AW G p l e ({ frames := 6, cells := 0, slots := 0, locals := 138 } : Room) s m args below meth c 0 0 (MQ below (QG G (oV Q)) args s 0 0 (frA G)) 2 (eOf [(0, vR a0), (1, vI x1_2)]) [] h_2 := by
    intro n_2
    induction n_2 using Nat.strongRecOn with
    | _ n_2 ih_2 =>
    intro x1_2 h_2 hi9
    have hw := hst9 n_2 x1_2 h_2 hi9
    refine aw_iload_n (pc := 2) C dX7_mixFrames_2 rfl rfl ?_
    refine aw_iconst (pc := 3) C dX7_mixFrames_3 (i := (2 : Int)) (by decide) ?_
    refine aw_icmp_ge (pc := 4) (tgt := 52) C dX7_mixFrames_4 (by decide) (fun hc9 => ?_) (fun hc9 => ?_)
    · have hw := hw.1 hc9
      refine aw_iconst (pc := 52) C dX7_mixFrames_52 (i := (0 : Int)) (by decide) ?_
      refine aw_istore_n (pc := 53) C dX7_mixFrames_53 rfl (by rw [hml]; decide) ?_
      obtain ⟨I_54, ⟨n9, hi9⟩, hst9⟩ := hw
      have L_54 : ∀ (n_54 : Nat) (x1_54 : Int) (h_54 : AH), I_54 n_54 x1_54 h_54 → AW G p l e ({ frames := 6, cells := 0, slots := 0, locals := 138 } : Room) s m args below meth c 0 0 (MQ below (QG G (oV Q)) args s 0 0 (frA G)) 54 (eOf [(0, vR a0), (1, vI x1_54)]) [] h_54 := by
        intro n_54
        induction n_54 using Nat.strongRecOn with
        | _ n_54 ih_54 =>
        intro x1_54 h_54 hi9
        have hw := hst9 n_54 x1_54 h_54 hi9
        refine aw_iload_n (pc := 54) C dX7_mixFrames_54 rfl rfl ?_
        refine aw_iconst (pc := 55) C dX7_mixFrames_55 (i := (3 : Int)) (by decide) ?_
        refine aw_aload_n (pc := 56) C dX7_mixFrames_56 rfl rfl ?_
        obtain ⟨hp9, b57, hb9, hw⟩ := hw
        refine aw_getR (pc := 57) C (ci := 7) (k := 6) ci7 (by decide) tw798 dX7_mixFrames_57 rfl hp9 hb9 ?_
        refine aw_iconst (pc := 60) C dX7_mixFrames_60 (i := (0 : Int)) (by decide) ?_
        obtain ⟨⟨k9, hp9⟩, hw⟩ := hw
        refine aw_iald (pc := 61) C dX7_mixFrames_61 hp9 ?_
        obtain ⟨hp9, hw⟩ := hw
        refine aw_imul (pc := 62) C dX7_mixFrames_62 hp9 ?_
        refine aw_icmp_ge (pc := 63) (tgt := 87) C dX7_mixFrames_63 (by decide) (fun hc9 => ?_) (fun hc9 => ?_)
        · have hw := hw.1 hc9
          refine aw_aload_n (pc := 87) C dX7_mixFrames_87 rfl rfl ?_
          obtain ⟨hp9, hw⟩ := hw
          refine aw_callV (pc := 88) (as := []) C ci7 (fun As hA => met_X7_frames G l As a0 _ _ hA hw) tw985 tw987 (tbp 56 (n := 21) (by decide +kernel)) tw10 tw988 ⟨rfl, rfl⟩ ⟨rfl, by decide, by decide, pd_X7_frames⟩ ⟨Nat.le_of_ble_eq_true rfl, Nat.le_of_ble_eq_true rfl⟩ ⟨Nat.zero_le _, Nat.zero_le _⟩ (Nat.le_of_ble_eq_true rfl) dX7_mixFrames_88 rfl hp9 (fun v9 h88 hq9 => ?_)
          obtain ⟨r88, rfl, hw⟩ := hq9
          refine aw_istore_n (pc := 91) C dX7_mixFrames_91 rfl (by rw [hml]; decide) ?_
          refine aw_iconst (pc := 92) C dX7_mixFrames_92 (i := (0 : Int)) (by decide) ?_
          refine aw_istore_n (pc := 93) C dX7_mixFrames_93 rfl (by rw [hml]; decide) ?_
          obtain ⟨I_94, ⟨n9, hi9⟩, hst9⟩ := hw
          have L_94 : ∀ (n_94 : Nat) (x2_94 : Int) (h_94 : AH), I_94 n_94 x2_94 h_94 → AW G p l e ({ frames := 6, cells := 0, slots := 0, locals := 138 } : Room) s m args below meth c 0 0 (MQ below (QG G (oV Q)) args s 0 0 (frA G)) 94 (eOf [(0, vR a0), (1, vI r88), (2, vI x2_94)]) [] h_94 := by
            intro n_94
            induction n_94 using Nat.strongRecOn with
            | _ n_94 ih_94 =>
            intro x2_94 h_94 hi9
            have hw := hst9 n_94 x2_94 h_94 hi9
            refine aw_iload_n (pc := 94) C dX7_mixFrames_94 rfl rfl ?_
            refine aw_iload_n (pc := 95) C dX7_mixFrames_95 rfl rfl ?_
            refine aw_icmp_ge (pc := 96) (tgt := 129) C dX7_mixFrames_96 (by decide) (fun hc9 => ?_) (fun hc9 => ?_)
            · have hw := hw.1 hc9
              refine aw_iconst (pc := 129) C dX7_mixFrames_129 (i := (0 : Int)) (by decide) ?_
              refine aw_istore_n (pc := 130) C dX7_mixFrames_130 rfl (by rw [hml]; decide) ?_
              obtain ⟨I_131, ⟨n9, hi9⟩, hst9⟩ := hw
              have L_131 : ∀ (n_131 : Nat) (x2_131 : Int) (h_131 : AH), I_131 n_131 x2_131 h_131 → AW G p l e ({ frames := 6, cells := 0, slots := 0, locals := 138 } : Room) s m args below meth c 0 0 (MQ below (QG G (oV Q)) args s 0 0 (frA G)) 131 (eOf [(0, vR a0), (1, vI r88), (2, vI x2_131)]) [] h_131 := by
                intro n_131
                induction n_131 using Nat.strongRecOn with
                | _ n_131 ih_131 =>
                intro x2_131 h_131 hi9
                have hw := hst9 n_131 x2_131 h_131 hi9
                refine aw_iload_n (pc := 131) C dX7_mixFrames_131 rfl rfl ?_
                refine aw_bipush (pc := 132) C dX7_mixFrames_132 (i := (80 : Int)) (by decide) ?_
                refine aw_icmp_ge (pc := 134) (tgt := 158) C dX7_mixFrames_134 (by decide) (fun hc9 => ?_) (fun hc9 => ?_)
                · have hw := hw.1 hc9
                  exact aw_vret (pc := 158) C hr dX7_mixFrames_158 ⟨Nat.le_of_ble_eq_true rfl, Nat.le_of_ble_eq_true rfl⟩ ⟨rfl, hw⟩
                · have hw := hw.2 hc9
                  refine aw_aload_n (pc := 137) C dX7_mixFrames_137 rfl rfl ?_
                  refine aw_aload_n (pc := 138) C dX7_mixFrames_138 rfl rfl ?_
                  refine aw_iload_n (pc := 139) C dX7_mixFrames_139 rfl rfl ?_
                  refine aw_iconst (pc := 140) C dX7_mixFrames_140 (i := (1 : Int)) (by decide) ?_
                  obtain ⟨hp9, hw⟩ := hw
                  refine aw_isub (pc := 141) C dX7_mixFrames_141 hp9 ?_
                  refine aw_iconst (pc := 142) C dX7_mixFrames_142 (i := (2 : Int)) (by decide) ?_
                  obtain ⟨hp9, hw⟩ := hw
                  refine aw_idiv (pc := 143) C dX7_mixFrames_143 hp9 ?_
                  refine aw_iload_n (pc := 144) C dX7_mixFrames_144 rfl rfl ?_
                  obtain ⟨hp9, hw⟩ := hw
                  refine aw_callV (pc := 145) (as := [vI ((r88 - (1 : Int)) / (2 : Int)), vI x2_131]) C ci7 (fun As hA => met_X7_shown G l As a0 ((r88 - (1 : Int)) / (2 : Int)) x2_131 _ _ hA hw) tw1041 tw1043 (tbp 63 (n := 21) (by decide +kernel)) tw10 tw1044 ⟨rfl, rfl⟩ ⟨rfl, by decide, by decide, pd_X7_shown⟩ ⟨Nat.le_of_ble_eq_true rfl, Nat.le_of_ble_eq_true rfl⟩ ⟨Nat.zero_le _, Nat.zero_le _⟩ (Nat.le_of_ble_eq_true rfl) dX7_mixFrames_145 rfl hp9 (fun v9 h145 hq9 => ?_)
                  obtain ⟨r145, rfl, hw⟩ := hq9
                  refine aw_i2l (pc := 148) C dX7_mixFrames_148  ?_
                  obtain ⟨hp9, hw⟩ := hw
                  refine aw_callV (pc := 149) (as := [vL (Int64.ofInt r145)]) C ci7 (fun As hA => met_X7_mix G l As a0 (Int64.ofInt r145) _ _ hA hw) tw1115 tw1117 (tbp 73 (n := 21) (by decide +kernel)) tw10 tw1118 ⟨rfl, rfl⟩ ⟨rfl, by decide, by decide, pd_X7_mix⟩ ⟨Nat.le_of_ble_eq_true rfl, Nat.le_of_ble_eq_true rfl⟩ ⟨Nat.zero_le _, Nat.zero_le _⟩ (Nat.le_of_ble_eq_true rfl) dX7_mixFrames_149 rfl hp9 (fun v9 h149 hq9 => ?_)
                  obtain ⟨rfl, hw⟩ := hq9
                  obtain ⟨hp9, hw⟩ := hw
                  refine aw_iincN (pc := 152) C dX7_mixFrames_152 (k := 1) (by decide) rfl (by rw [hml]; decide) hp9 (fun x2_152 e9 => ?_)
                  have hw := hw x2_152 e9
                  refine aw_goto (pc := 155) (tgt := 131) C dX7_mixFrames_155 (by decide) ?_
                  obtain ⟨m9, hm9, hw⟩ := hw
                  refine aw_sub [(0, vR a0), (1, vI r88), (2, vI x2_152)] ⟨rfl, rfl, rfl, trivial⟩ ?_
                  exact ih_131 m9 hm9 _ _ hw
              refine aw_sub [(0, vR a0), (1, vI r88), (2, vI (0 : Int))] ⟨rfl, rfl, rfl, trivial⟩ ?_
              exact L_131 n9 _ _ hi9
            · have hw := hw.2 hc9
              refine aw_iconst (pc := 99) C dX7_mixFrames_99 (i := (0 : Int)) (by decide) ?_
              refine aw_istore_n (pc := 100) C dX7_mixFrames_100 rfl (by rw [hml]; decide) ?_
              obtain ⟨I_101, ⟨n9, hi9⟩, hst9⟩ := hw
              have L_101 : ∀ (n_101 : Nat) (x3_101 : Int) (h_101 : AH), I_101 n_101 x3_101 h_101 → AW G p l e ({ frames := 6, cells := 0, slots := 0, locals := 138 } : Room) s m args below meth c 0 0 (MQ below (QG G (oV Q)) args s 0 0 (frA G)) 101 (eOf [(0, vR a0), (1, vI r88), (2, vI x2_94), (3, vI x3_101)]) [] h_101 := by
                intro n_101
                induction n_101 using Nat.strongRecOn with
                | _ n_101 ih_101 =>
                intro x3_101 h_101 hi9
                have hw := hst9 n_101 x3_101 h_101 hi9
                refine aw_iload_n (pc := 101) C dX7_mixFrames_101 rfl rfl ?_
                refine aw_iconst (pc := 102) C dX7_mixFrames_102 (i := (5 : Int)) (by decide) ?_
                refine aw_icmp_ge (pc := 103) (tgt := 123) C dX7_mixFrames_103 (by decide) (fun hc9 => ?_) (fun hc9 => ?_)
                · have hw := hw.1 hc9
                  obtain ⟨hp9, hw⟩ := hw
                  refine aw_iincN (pc := 123) C dX7_mixFrames_123 (k := 1) (by decide) rfl (by rw [hml]; decide) hp9 (fun x2_123 e9 => ?_)
                  have hw := hw x2_123 e9
                  refine aw_goto (pc := 126) (tgt := 94) C dX7_mixFrames_126 (by decide) ?_
                  obtain ⟨m9, hm9, hw⟩ := hw
                  refine aw_sub [(0, vR a0), (1, vI r88), (2, vI x2_123)] ⟨rfl, rfl, rfl, trivial⟩ ?_
                  exact ih_94 m9 hm9 _ _ hw
                · have hw := hw.2 hc9
                  refine aw_aload_n (pc := 106) C dX7_mixFrames_106 rfl rfl ?_
                  refine aw_aload_n (pc := 107) C dX7_mixFrames_107 rfl rfl ?_
                  refine aw_iload_n (pc := 108) C dX7_mixFrames_108 rfl rfl ?_
                  refine aw_iload_n (pc := 109) C dX7_mixFrames_109 rfl rfl ?_
                  obtain ⟨hp9, hw⟩ := hw
                  refine aw_callV (pc := 110) (as := [vI x2_94, vI x3_101]) C ci7 (fun As hA => met_X7_frameNow G l As a0 x2_94 x3_101 _ _ hA hw) tw1061 tw1063 (tbp 66 (n := 21) (by decide +kernel)) tw10 tw1064 ⟨rfl, rfl⟩ ⟨rfl, by decide, by decide, pd_X7_frameNow⟩ ⟨Nat.le_of_ble_eq_true rfl, Nat.le_of_ble_eq_true rfl⟩ ⟨Nat.zero_le _, Nat.zero_le _⟩ (Nat.le_of_ble_eq_true rfl) dX7_mixFrames_110 rfl hp9 (fun v9 h110 hq9 => ?_)
                  obtain ⟨r110, rfl, hw⟩ := hq9
                  refine aw_i2l (pc := 113) C dX7_mixFrames_113  ?_
                  obtain ⟨hp9, hw⟩ := hw
                  refine aw_callV (pc := 114) (as := [vL (Int64.ofInt r110)]) C ci7 (fun As hA => met_X7_mix G l As a0 (Int64.ofInt r110) _ _ hA hw) tw1115 tw1117 (tbp 73 (n := 21) (by decide +kernel)) tw10 tw1118 ⟨rfl, rfl⟩ ⟨rfl, by decide, by decide, pd_X7_mix⟩ ⟨Nat.le_of_ble_eq_true rfl, Nat.le_of_ble_eq_true rfl⟩ ⟨Nat.zero_le _, Nat.zero_le _⟩ (Nat.le_of_ble_eq_true rfl) dX7_mixFrames_114 rfl hp9 (fun v9 h114 hq9 => ?_)
                  obtain ⟨rfl, hw⟩ := hq9
                  obtain ⟨hp9, hw⟩ := hw
                  refine aw_iincN (pc := 117) C dX7_mixFrames_117 (k := 1) (by decide) rfl (by rw [hml]; decide) hp9 (fun x3_117 e9 => ?_)
                  have hw := hw x3_117 e9
                  refine aw_goto (pc := 120) (tgt := 101) C dX7_mixFrames_120 (by decide) ?_
                  obtain ⟨m9, hm9, hw⟩ := hw
                  refine aw_sub [(0, vR a0), (1, vI r88), (2, vI x2_94), (3, vI x3_117)] ⟨rfl, rfl, rfl, rfl, trivial⟩ ?_
                  exact ih_101 m9 hm9 _ _ hw
              refine aw_sub [(0, vR a0), (1, vI r88), (2, vI x2_94), (3, vI (0 : Int))] ⟨rfl, rfl, rfl, rfl, trivial⟩ ?_
              exact L_101 n9 _ _ hi9
          refine aw_sub [(0, vR a0), (1, vI r88), (2, vI (0 : Int))] ⟨rfl, rfl, rfl, trivial⟩ ?_
          exact L_94 n9 _ _ hi9
        · have hw := hw.2 hc9
          refine aw_aload_n (pc := 66) C dX7_mixFrames_66 rfl rfl ?_
          refine aw_aload_n (pc := 67) C dX7_mixFrames_67 rfl rfl ?_
          refine aw_iload_n (pc := 68) C dX7_mixFrames_68 rfl rfl ?_
          refine aw_iconst (pc := 69) C dX7_mixFrames_69 (i := (3 : Int)) (by decide) ?_
          obtain ⟨hp9, hw⟩ := hw
          refine aw_idiv (pc := 70) C dX7_mixFrames_70 hp9 ?_
          refine aw_iload_n (pc := 71) C dX7_mixFrames_71 rfl rfl ?_
          refine aw_iconst (pc := 72) C dX7_mixFrames_72 (i := (3 : Int)) (by decide) ?_
          obtain ⟨hp9, hw⟩ := hw
          refine aw_irem (pc := 73) C dX7_mixFrames_73 hp9 ?_
          obtain ⟨hp9, hw⟩ := hw
          refine aw_callV (pc := 74) (as := [vI (x1_54 / (3 : Int)), vI (x1_54 % (3 : Int))]) C ci7 (fun As hA => met_X7_wayNow G l As a0 (x1_54 / (3 : Int)) (x1_54 % (3 : Int)) _ _ hA hw) tw1021 tw1023 (tbp 59 (n := 21) (by decide +kernel)) tw10 tw1024 ⟨rfl, rfl⟩ ⟨rfl, by decide, by decide, pd_X7_wayNow⟩ ⟨Nat.le_of_ble_eq_true rfl, Nat.le_of_ble_eq_true rfl⟩ ⟨Nat.zero_le _, Nat.zero_le _⟩ (Nat.le_of_ble_eq_true rfl) dX7_mixFrames_74 rfl hp9 (fun v9 h74 hq9 => ?_)
          obtain ⟨r74, rfl, hw⟩ := hq9
          refine aw_i2l (pc := 77) C dX7_mixFrames_77  ?_
          obtain ⟨hp9, hw⟩ := hw
          refine aw_callV (pc := 78) (as := [vL (Int64.ofInt r74)]) C ci7 (fun As hA => met_X7_mix G l As a0 (Int64.ofInt r74) _ _ hA hw) tw1115 tw1117 (tbp 73 (n := 21) (by decide +kernel)) tw10 tw1118 ⟨rfl, rfl⟩ ⟨rfl, by decide, by decide, pd_X7_mix⟩ ⟨Nat.le_of_ble_eq_true rfl, Nat.le_of_ble_eq_true rfl⟩ ⟨Nat.zero_le _, Nat.zero_le _⟩ (Nat.le_of_ble_eq_true rfl) dX7_mixFrames_78 rfl hp9 (fun v9 h78 hq9 => ?_)
          obtain ⟨rfl, hw⟩ := hq9
          obtain ⟨hp9, hw⟩ := hw
          refine aw_iincN (pc := 81) C dX7_mixFrames_81 (k := 1) (by decide) rfl (by rw [hml]; decide) hp9 (fun x1_81 e9 => ?_)
          have hw := hw x1_81 e9
          refine aw_goto (pc := 84) (tgt := 54) C dX7_mixFrames_84 (by decide) ?_
          obtain ⟨m9, hm9, hw⟩ := hw
          refine aw_sub [(0, vR a0), (1, vI x1_81)] ⟨rfl, rfl, trivial⟩ ?_
          exact ih_54 m9 hm9 _ _ hw
      refine aw_sub [(0, vR a0), (1, vI (0 : Int))] ⟨rfl, rfl, trivial⟩ ?_
      exact L_54 n9 _ _ hi9
    · have hw := hw.2 hc9
      refine aw_iconst (pc := 7) C dX7_mixFrames_7 (i := (0 : Int)) (by decide) ?_
      refine aw_istore_n (pc := 8) C dX7_mixFrames_8 rfl (by rw [hml]; decide) ?_
      obtain ⟨I_9, ⟨n9, hi9⟩, hst9⟩ := hw
      have L_9 : ∀ (n_9 : Nat) (x2_9 : Int) (h_9 : AH), I_9 n_9 x2_9 h_9 → AW G p l e ({ frames := 6, cells := 0, slots := 0, locals := 138 } : Room) s m args below meth c 0 0 (MQ below (QG G (oV Q)) args s 0 0 (frA G)) 9 (eOf [(0, vR a0), (1, vI x1_2), (2, vI x2_9)]) [] h_9 := by
        intro n_9
        induction n_9 using Nat.strongRecOn with
        | _ n_9 ih_9 =>
        intro x2_9 h_9 hi9
        have hw := hst9 n_9 x2_9 h_9 hi9
        refine aw_iload_n (pc := 9) C dX7_mixFrames_9 rfl rfl ?_
        refine aw_bipush (pc := 10) C dX7_mixFrames_10 (i := (6 : Int)) (by decide) ?_
        refine aw_aload_n (pc := 12) C dX7_mixFrames_12 rfl rfl ?_
        obtain ⟨hp9, b13, hb9, hw⟩ := hw
        refine aw_getR (pc := 13) C (ci := 7) (k := 6) ci7 (by decide) tw798 dX7_mixFrames_13 rfl hp9 hb9 ?_
        refine aw_iload_n (pc := 16) C dX7_mixFrames_16 rfl rfl ?_
        obtain ⟨⟨k9, hp9⟩, hw⟩ := hw
        refine aw_iald (pc := 17) C dX7_mixFrames_17 hp9 ?_
        obtain ⟨hp9, hw⟩ := hw
        refine aw_imul (pc := 18) C dX7_mixFrames_18 hp9 ?_
        refine aw_icmp_ge (pc := 19) (tgt := 46) C dX7_mixFrames_19 (by decide) (fun hc9 => ?_) (fun hc9 => ?_)
        · have hw := hw.1 hc9
          obtain ⟨hp9, hw⟩ := hw
          refine aw_iincN (pc := 46) C dX7_mixFrames_46 (k := 1) (by decide) rfl (by rw [hml]; decide) hp9 (fun x1_46 e9 => ?_)
          have hw := hw x1_46 e9
          refine aw_goto (pc := 49) (tgt := 2) C dX7_mixFrames_49 (by decide) ?_
          obtain ⟨m9, hm9, hw⟩ := hw
          refine aw_sub [(0, vR a0), (1, vI x1_46)] ⟨rfl, rfl, trivial⟩ ?_
          exact ih_2 m9 hm9 _ _ hw
        · have hw := hw.2 hc9
          refine aw_aload_n (pc := 22) C dX7_mixFrames_22 rfl rfl ?_
          refine aw_aload_n (pc := 23) C dX7_mixFrames_23 rfl rfl ?_
          refine aw_iload_n (pc := 24) C dX7_mixFrames_24 rfl rfl ?_
          refine aw_iload_n (pc := 25) C dX7_mixFrames_25 rfl rfl ?_
          refine aw_bipush (pc := 26) C dX7_mixFrames_26 (i := (6 : Int)) (by decide) ?_
          obtain ⟨hp9, hw⟩ := hw
          refine aw_idiv (pc := 28) C dX7_mixFrames_28 hp9 ?_
          refine aw_iload_n (pc := 29) C dX7_mixFrames_29 rfl rfl ?_
          refine aw_bipush (pc := 30) C dX7_mixFrames_30 (i := (6 : Int)) (by decide) ?_
          obtain ⟨hp9, hw⟩ := hw
          refine aw_irem (pc := 32) C dX7_mixFrames_32 hp9 ?_
          obtain ⟨hp9, hw⟩ := hw
          refine aw_callV (pc := 33) (as := [vI x1_2, vI (x2_9 / (6 : Int)), vI (x2_9 % (6 : Int))]) C ci7 (fun As hA => met_X7_letterNow G l As a0 x1_2 (x2_9 / (6 : Int)) (x2_9 % (6 : Int)) _ _ hA hw) tw1013 tw1015 (tbp 58 (n := 21) (by decide +kernel)) tw10 tw1016 ⟨rfl, rfl⟩ ⟨rfl, by decide, by decide, pd_X7_letterNow⟩ ⟨Nat.le_of_ble_eq_true rfl, Nat.le_of_ble_eq_true rfl⟩ ⟨Nat.zero_le _, Nat.zero_le _⟩ (Nat.le_of_ble_eq_true rfl) dX7_mixFrames_33 rfl hp9 (fun v9 h33 hq9 => ?_)
          obtain ⟨r33, rfl, hw⟩ := hq9
          refine aw_i2l (pc := 36) C dX7_mixFrames_36  ?_
          obtain ⟨hp9, hw⟩ := hw
          refine aw_callV (pc := 37) (as := [vL (Int64.ofInt r33)]) C ci7 (fun As hA => met_X7_mix G l As a0 (Int64.ofInt r33) _ _ hA hw) tw1115 tw1117 (tbp 73 (n := 21) (by decide +kernel)) tw10 tw1118 ⟨rfl, rfl⟩ ⟨rfl, by decide, by decide, pd_X7_mix⟩ ⟨Nat.le_of_ble_eq_true rfl, Nat.le_of_ble_eq_true rfl⟩ ⟨Nat.zero_le _, Nat.zero_le _⟩ (Nat.le_of_ble_eq_true rfl) dX7_mixFrames_37 rfl hp9 (fun v9 h37 hq9 => ?_)
          obtain ⟨rfl, hw⟩ := hq9
          obtain ⟨hp9, hw⟩ := hw
          refine aw_iincN (pc := 40) C dX7_mixFrames_40 (k := 1) (by decide) rfl (by rw [hml]; decide) hp9 (fun x2_40 e9 => ?_)
          have hw := hw x2_40 e9
          refine aw_goto (pc := 43) (tgt := 9) C dX7_mixFrames_43 (by decide) ?_
          obtain ⟨m9, hm9, hw⟩ := hw
          refine aw_sub [(0, vR a0), (1, vI x1_2), (2, vI x2_40)] ⟨rfl, rfl, rfl, trivial⟩ ?_
          exact ih_9 m9 hm9 _ _ hw
      refine aw_sub [(0, vR a0), (1, vI x1_2), (2, vI (0 : Int))] ⟨rfl, rfl, rfl, trivial⟩ ?_
      exact L_9 n9 _ _ hi9
  refine aw_sub [(0, vR a0), (1, vI (0 : Int))] ⟨rfl, rfl, trivial⟩ ?_
  exact L_2 n9 _ _ hi9
theorem dX7_digest_0 : decode cX7_digest 0 = .ok (.aload_n 0, 1) := by decide +kernel
theorem dX7_digest_1 : decode cX7_digest 1 = .ok (.iconst 0, 1) := by decide +kernel
theorem dX7_digest_2 : decode cX7_digest 2 = .ok (.putfield 61, 3) := by decide +kernel
theorem dX7_digest_5 : decode cX7_digest 5 = .ok (.aload_n 0, 1) := by decide +kernel
theorem dX7_digest_6 : decode cX7_digest 6 = .ok (.ldc2_w 232, 3) := by decide +kernel
theorem dX7_digest_9 : decode cX7_digest 9 = .ok (.putfield 224, 3) := by decide +kernel
theorem dX7_digest_12 : decode cX7_digest 12 = .ok (.aload_n 0, 1) := by decide +kernel
theorem dX7_digest_13 : decode cX7_digest 13 = .ok (.invokevirtual 170, 3) := by decide +kernel
theorem dX7_digest_16 : decode cX7_digest 16 = .ok (.iconst 0, 1) := by decide +kernel
theorem dX7_digest_17 : decode cX7_digest 17 = .ok (.istore_n 1, 1) := by decide +kernel
theorem dX7_digest_18 : decode cX7_digest 18 = .ok (.iload_n 1, 1) := by decide +kernel
theorem dX7_digest_19 : decode cX7_digest 19 = .ok (.bipush 13, 2) := by decide +kernel
theorem dX7_digest_21 : decode cX7_digest 21 = .ok (.if_icmp .ge 19, 3) := by decide +kernel
theorem dX7_digest_24 : decode cX7_digest 24 = .ok (.aload_n 0, 1) := by decide +kernel
theorem dX7_digest_25 : decode cX7_digest 25 = .ok (.aload_n 0, 1) := by decide +kernel
theorem dX7_digest_26 : decode cX7_digest 26 = .ok (.iload_n 1, 1) := by decide +kernel
theorem dX7_digest_27 : decode cX7_digest 27 = .ok (.invokevirtual 207, 3) := by decide +kernel
theorem dX7_digest_30 : decode cX7_digest 30 = .ok (.i2l, 1) := by decide +kernel
theorem dX7_digest_31 : decode cX7_digest 31 = .ok (.invokevirtual 228, 3) := by decide +kernel
theorem dX7_digest_34 : decode cX7_digest 34 = .ok (.iinc 1 1, 3) := by decide +kernel
theorem dX7_digest_37 : decode cX7_digest 37 = .ok (.goto (-19), 3) := by decide +kernel
theorem dX7_digest_40 : decode cX7_digest 40 = .ok (.iconst 0, 1) := by decide +kernel
theorem dX7_digest_41 : decode cX7_digest 41 = .ok (.istore_n 1, 1) := by decide +kernel
theorem dX7_digest_42 : decode cX7_digest 42 = .ok (.iload_n 1, 1) := by decide +kernel
theorem dX7_digest_43 : decode cX7_digest 43 = .ok (.bipush 8, 2) := by decide +kernel
theorem dX7_digest_45 : decode cX7_digest 45 = .ok (.if_icmp .ge 19, 3) := by decide +kernel
theorem dX7_digest_48 : decode cX7_digest 48 = .ok (.aload_n 0, 1) := by decide +kernel
theorem dX7_digest_49 : decode cX7_digest 49 = .ok (.aload_n 0, 1) := by decide +kernel
theorem dX7_digest_50 : decode cX7_digest 50 = .ok (.iload_n 1, 1) := by decide +kernel
theorem dX7_digest_51 : decode cX7_digest 51 = .ok (.invokevirtual 73, 3) := by decide +kernel
theorem dX7_digest_54 : decode cX7_digest 54 = .ok (.i2l, 1) := by decide +kernel
theorem dX7_digest_55 : decode cX7_digest 55 = .ok (.invokevirtual 228, 3) := by decide +kernel
theorem dX7_digest_58 : decode cX7_digest 58 = .ok (.iinc 1 1, 3) := by decide +kernel
theorem dX7_digest_61 : decode cX7_digest 61 = .ok (.goto (-19), 3) := by decide +kernel
theorem dX7_digest_64 : decode cX7_digest 64 = .ok (.aload_n 0, 1) := by decide +kernel
theorem dX7_digest_65 : decode cX7_digest 65 = .ok (.invokevirtual 234, 3) := by decide +kernel
theorem dX7_digest_68 : decode cX7_digest 68 = .ok (.aload_n 0, 1) := by decide +kernel
theorem dX7_digest_69 : decode cX7_digest 69 = .ok (.aload_n 0, 1) := by decide +kernel
theorem dX7_digest_70 : decode cX7_digest 70 = .ok (.invokevirtual 213, 3) := by decide +kernel
theorem dX7_digest_73 : decode cX7_digest 73 = .ok (.i2l, 1) := by decide +kernel
theorem dX7_digest_74 : decode cX7_digest 74 = .ok (.invokevirtual 228, 3) := by decide +kernel
theorem dX7_digest_77 : decode cX7_digest 77 = .ok (.aload_n 0, 1) := by decide +kernel
theorem dX7_digest_78 : decode cX7_digest 78 = .ok (.aload_n 0, 1) := by decide +kernel
theorem dX7_digest_79 : decode cX7_digest 79 = .ok (.invokevirtual 218, 3) := by decide +kernel
theorem dX7_digest_82 : decode cX7_digest 82 = .ok (.invokestatic 237, 3) := by decide +kernel
theorem dX7_digest_85 : decode cX7_digest 85 = .ok (.invokevirtual 228, 3) := by decide +kernel
theorem dX7_digest_88 : decode cX7_digest 88 = .ok (.aload_n 0, 1) := by decide +kernel
theorem dX7_digest_89 : decode cX7_digest 89 = .ok (.aload_n 0, 1) := by decide +kernel
theorem dX7_digest_90 : decode cX7_digest 90 = .ok (.getfield 176, 3) := by decide +kernel
theorem dX7_digest_93 : decode cX7_digest 93 = .ok (.i2l, 1) := by decide +kernel
theorem dX7_digest_94 : decode cX7_digest 94 = .ok (.invokevirtual 228, 3) := by decide +kernel
theorem dX7_digest_97 : decode cX7_digest 97 = .ok (.iconst 0, 1) := by decide +kernel
theorem dX7_digest_98 : decode cX7_digest 98 = .ok (.istore_n 1, 1) := by decide +kernel
theorem dX7_digest_99 : decode cX7_digest 99 = .ok (.iload_n 1, 1) := by decide +kernel
theorem dX7_digest_100 : decode cX7_digest 100 = .ok (.aload_n 0, 1) := by decide +kernel
theorem dX7_digest_101 : decode cX7_digest 101 = .ok (.getfield 176, 3) := by decide +kernel
theorem dX7_digest_104 : decode cX7_digest 104 = .ok (.if_icmp .ge 20, 3) := by decide +kernel
theorem dX7_digest_107 : decode cX7_digest 107 = .ok (.aload_n 0, 1) := by decide +kernel
theorem dX7_digest_108 : decode cX7_digest 108 = .ok (.aload_n 0, 1) := by decide +kernel
theorem dX7_digest_109 : decode cX7_digest 109 = .ok (.getfield 16, 3) := by decide +kernel
theorem dX7_digest_112 : decode cX7_digest 112 = .ok (.iload_n 1, 1) := by decide +kernel
theorem dX7_digest_113 : decode cX7_digest 113 = .ok (.iaload, 1) := by decide +kernel
theorem dX7_digest_114 : decode cX7_digest 114 = .ok (.i2l, 1) := by decide +kernel
theorem dX7_digest_115 : decode cX7_digest 115 = .ok (.invokevirtual 228, 3) := by decide +kernel
theorem dX7_digest_118 : decode cX7_digest 118 = .ok (.iinc 1 1, 3) := by decide +kernel
theorem dX7_digest_121 : decode cX7_digest 121 = .ok (.goto (-22), 3) := by decide +kernel
theorem dX7_digest_124 : decode cX7_digest 124 = .ok (.aload_n 0, 1) := by decide +kernel
theorem dX7_digest_125 : decode cX7_digest 125 = .ok (.getfield 224, 3) := by decide +kernel
theorem dX7_digest_128 : decode cX7_digest 128 = .ok (.lreturn, 1) := by decide +kernel
theorem pd_X7_digest : (parseMethodDescriptor yX7_digest.desc).map (fun d => d.parameters.length) = some 0 := by decide +kernel
def w_X7_digest (zz : Nat → Nat) (a0 : Nat) (h : AH) (Q : Int64 → AH → Prop) : Prop := okP h a0 7 ∧ ∀ h2 : AH, h2 = sfI h a0 0 (0 : Int) → okP h2 a0 7 ∧ ∀ h9 : AH, h9 = sfL h2 a0 20 (2111 : Int64) → okA h9 a0 7 ∧ w_X7_lay zz a0 h9 (fun  (h13 : AH) => ∃ I_18 : Nat → Int → AH → Prop, (∃ n, I_18 n (0 : Int) h13) ∧ ∀ (n_18 : Nat) (x1_18 : Int) (h_18 : AH), I_18 n_18 x1_18 h_18 → ((((13 : Int) ≤ x1_18) → ∃ I_42 : Nat → Int → AH → Prop, (∃ n, I_42 n (0 : Int) h_18) ∧ ∀ (n_42 : Nat) (x1_42 : Int) (h_42 : AH), I_42 n_42 x1_42 h_42 → ((((8 : Int) ≤ x1_42) → okA h_42 a0 7 ∧ w_X7_mixFrames zz a0 h_42 (fun  (h65 : AH) => okA h65 a0 7 ∧ w_X7_bestNow zz a0 h65 (fun (r70 : Int) (h70 : AH) => okA h70 a0 7 ∧ w_X7_mix zz a0 (Int64.ofInt r70) h70 (fun  (h74 : AH) => okA h74 a0 7 ∧ w_X7_likenessNow zz a0 h74 (fun (r79 : UInt64) (h79 : AH) => w_Jxe99ae_doubleToLongBits_ccdee zz r79 h79 (fun (r82 : Int64) (h82 : AH) => okA h82 a0 7 ∧ w_X7_mix zz a0 r82 h82 (fun  (h85 : AH) => okA h85 a0 7 ∧ okA h85 a0 7 ∧ w_X7_mix zz a0 (Int64.ofInt (hfI h85 a0 4)) h85 (fun  (h94 : AH) => ∃ I_99 : Nat → Int → AH → Prop, (∃ n, I_99 n (0 : Int) h94) ∧ ∀ (n_99 : Nat) (x1_99 : Int) (h_99 : AH), I_99 n_99 x1_99 h_99 → (okA h_99 a0 7 ∧ (((hfI h_99 a0 4) ≤ x1_99) → okA h_99 a0 7 ∧ Q (hfL h_99 a0 20) h_99) ∧ ((¬ ((hfI h_99 a0 4) ≤ x1_99)) → okA h_99 a0 7 ∧ ∃ b109 : Nat, hfR h_99 a0 5 = some b109 ∧ okI h_99 b109 x1_99 ∧ okA h_99 a0 7 ∧ w_X7_mix zz a0 (Int64.ofInt (haI h_99 b109 x1_99)) h_99 (fun  (h115 : AH) => inR (x1_99 + 1) ∧ ∀ x1_118 : Int, x1_118 = (x1_99 + 1) → ∃ m, m < n_99 ∧ I_99 m x1_118 h115))))))))))) ∧ ((¬ ((8 : Int) ≤ x1_42)) → okA h_42 a0 7 ∧ w_X7_of zz a0 x1_42 h_42 (fun (r51 : Int) (h51 : AH) => okA h51 a0 7 ∧ w_X7_mix zz a0 (Int64.ofInt r51) h51 (fun  (h55 : AH) => inR (x1_42 + 1) ∧ ∀ x1_58 : Int, x1_58 = (x1_42 + 1) → ∃ m, m < n_42 ∧ I_42 m x1_58 h55))))) ∧ ((¬ ((13 : Int) ≤ x1_18)) → okA h_18 a0 7 ∧ w_X7_counted zz a0 x1_18 h_18 (fun (r27 : Int) (h27 : AH) => okA h27 a0 7 ∧ w_X7_mix zz a0 (Int64.ofInt r27) h27 (fun  (h31 : AH) => inR (x1_18 + 1) ∧ ∀ x1_34 : Int, x1_34 = (x1_18 + 1) → ∃ m, m < n_18 ∧ I_18 m x1_34 h31)))))
set_option maxRecDepth 100000 in
set_option maxHeartbeats 4000000 in
theorem met_X7_digest (G : GG) (l : Launch) : ∀ (As : List Value) (a0 : Nat) (h : AH) (Q : Int64 → AH → Prop), As.map ab = List.map some ([vR a0] : List AV) → w_X7_digest G.2.2 a0 h Q → Met l yX7_digest (.code yX7_digest cX7_digest 2 (some .long) :: xTb) ({ frames := 7, cells := 0, slots := 0, locals := 161 } : Room) (PcA G As h) (QG G (oL Q)) 0 0 (frA G) := by
  intro As a0 h Q hA hw
  refine met_of hA (by decide) (Nat.le_of_ble_eq_true rfl) (fun p e s m args below meth c C hml hr hnm => ?_)
  unfold w_X7_digest at hw
  refine aw_aload_n (pc := 0) C dX7_digest_0 rfl rfl ?_
  refine aw_iconst (pc := 1) C dX7_digest_1 (i := (0 : Int)) (by decide) ?_
  obtain ⟨hp9, hw⟩ := hw
  refine aw_putI (pc := 2) C (ci := 7) (k := 0) ci7 (by decide) tw792 (Or.inl rfl) dX7_digest_2 rfl hp9 (aw_nmH (fun h2 e9 => ?_))
  have hw := hw h2 e9
  refine aw_aload_n (pc := 5) C dX7_digest_5 rfl rfl ?_
  refine aw_ldc2 (pc := 6) C tw1114 dX7_digest_6 ?_
  obtain ⟨hp9, hw⟩ := hw
  refine aw_putL (pc := 9) C (ci := 7) (k := 20) ci7 (by decide) tw812 (Or.inl rfl) dX7_digest_9 rfl hp9 (aw_nmH (fun h9 e9 => ?_))
  have hw := hw h9 e9
  refine aw_aload_n (pc := 12) C dX7_digest_12 rfl rfl ?_
  obtain ⟨hp9, hw⟩ := hw
  refine aw_callV (pc := 13) (as := []) C ci7 (fun As hA => met_X7_lay G l As a0 _ _ hA hw) tw910 tw912 (tbp 38 (n := 21) (by decide +kernel)) tw10 tw913 ⟨rfl, rfl⟩ ⟨rfl, by decide, by decide, pd_X7_lay⟩ ⟨Nat.le_of_ble_eq_true rfl, Nat.le_of_ble_eq_true rfl⟩ ⟨Nat.zero_le _, Nat.zero_le _⟩ (Nat.le_of_ble_eq_true rfl) dX7_digest_13 rfl hp9 (fun v9 h13 hq9 => ?_)
  obtain ⟨rfl, hw⟩ := hq9
  refine aw_iconst (pc := 16) C dX7_digest_16 (i := (0 : Int)) (by decide) ?_
  refine aw_istore_n (pc := 17) C dX7_digest_17 rfl (by rw [hml]; decide) ?_
  obtain ⟨I_18, ⟨n9, hi9⟩, hst9⟩ := hw
  have L_18 : ∀ (n_18 : Nat) (x1_18 : Int) (h_18 : AH), I_18 n_18 x1_18 h_18 → AW G p l e ({ frames := 7, cells := 0, slots := 0, locals := 161 } : Room) s m args below meth c 0 0 (MQ below (QG G (oL Q)) args s 0 0 (frA G)) 18 (eOf [(0, vR a0), (1, vI x1_18)]) [] h_18 := by
    intro n_18
    induction n_18 using Nat.strongRecOn with
    | _ n_18 ih_18 =>
    intro x1_18 h_18 hi9
    have hw := hst9 n_18 x1_18 h_18 hi9
    refine aw_iload_n (pc := 18) C dX7_digest_18 rfl rfl ?_
    refine aw_bipush (pc := 19) C dX7_digest_19 (i := (13 : Int)) (by decide) ?_
    refine aw_icmp_ge (pc := 21) (tgt := 40) C dX7_digest_21 (by decide) (fun hc9 => ?_) (fun hc9 => ?_)
    · have hw := hw.1 hc9
      refine aw_iconst (pc := 40) C dX7_digest_40 (i := (0 : Int)) (by decide) ?_
      refine aw_istore_n (pc := 41) C dX7_digest_41 rfl (by rw [hml]; decide) ?_
      obtain ⟨I_42, ⟨n9, hi9⟩, hst9⟩ := hw
      have L_42 : ∀ (n_42 : Nat) (x1_42 : Int) (h_42 : AH), I_42 n_42 x1_42 h_42 → AW G p l e ({ frames := 7, cells := 0, slots := 0, locals := 161 } : Room) s m args below meth c 0 0 (MQ below (QG G (oL Q)) args s 0 0 (frA G)) 42 (eOf [(0, vR a0), (1, vI x1_42)]) [] h_42 := by
        intro n_42
        induction n_42 using Nat.strongRecOn with
        | _ n_42 ih_42 =>
        intro x1_42 h_42 hi9
        have hw := hst9 n_42 x1_42 h_42 hi9
        refine aw_iload_n (pc := 42) C dX7_digest_42 rfl rfl ?_
        refine aw_bipush (pc := 43) C dX7_digest_43 (i := (8 : Int)) (by decide) ?_
        refine aw_icmp_ge (pc := 45) (tgt := 64) C dX7_digest_45 (by decide) (fun hc9 => ?_) (fun hc9 => ?_)
        · have hw := hw.1 hc9
          refine aw_aload_n (pc := 64) C dX7_digest_64 rfl rfl ?_
          obtain ⟨hp9, hw⟩ := hw
          refine aw_callV (pc := 65) (as := []) C ci7 (fun As hA => met_X7_mixFrames G l As a0 _ _ hA hw) tw1120 tw1122 (tbp 74 (n := 21) (by decide +kernel)) tw10 tw1123 ⟨rfl, rfl⟩ ⟨rfl, by decide, by decide, pd_X7_mixFrames⟩ ⟨Nat.le_of_ble_eq_true rfl, Nat.le_of_ble_eq_true rfl⟩ ⟨Nat.zero_le _, Nat.zero_le _⟩ (Nat.le_of_ble_eq_true rfl) dX7_digest_65 rfl hp9 (fun v9 h65 hq9 => ?_)
          obtain ⟨rfl, hw⟩ := hq9
          refine aw_aload_n (pc := 68) C dX7_digest_68 rfl rfl ?_
          refine aw_aload_n (pc := 69) C dX7_digest_69 rfl rfl ?_
          obtain ⟨hp9, hw⟩ := hw
          refine aw_callV (pc := 70) (as := []) C ci7 (fun As hA => met_X7_bestNow G l As a0 _ _ hA hw) tw1097 tw1099 (tbp 71 (n := 21) (by decide +kernel)) tw10 tw1100 ⟨rfl, rfl⟩ ⟨rfl, by decide, by decide, pd_X7_bestNow⟩ ⟨Nat.le_of_ble_eq_true rfl, Nat.le_of_ble_eq_true rfl⟩ ⟨Nat.zero_le _, Nat.zero_le _⟩ (Nat.le_of_ble_eq_true rfl) dX7_digest_70 rfl hp9 (fun v9 h70 hq9 => ?_)
          obtain ⟨r70, rfl, hw⟩ := hq9
          refine aw_i2l (pc := 73) C dX7_digest_73  ?_
          obtain ⟨hp9, hw⟩ := hw
          refine aw_callV (pc := 74) (as := [vL (Int64.ofInt r70)]) C ci7 (fun As hA => met_X7_mix G l As a0 (Int64.ofInt r70) _ _ hA hw) tw1115 tw1117 (tbp 73 (n := 21) (by decide +kernel)) tw10 tw1118 ⟨rfl, rfl⟩ ⟨rfl, by decide, by decide, pd_X7_mix⟩ ⟨Nat.le_of_ble_eq_true rfl, Nat.le_of_ble_eq_true rfl⟩ ⟨Nat.zero_le _, Nat.zero_le _⟩ (Nat.le_of_ble_eq_true rfl) dX7_digest_74 rfl hp9 (fun v9 h74 hq9 => ?_)
          obtain ⟨rfl, hw⟩ := hq9
          refine aw_aload_n (pc := 77) C dX7_digest_77 rfl rfl ?_
          refine aw_aload_n (pc := 78) C dX7_digest_78 rfl rfl ?_
          obtain ⟨hp9, hw⟩ := hw
          refine aw_callV (pc := 79) (as := []) C ci7 (fun As hA => met_X7_likenessNow G l As a0 _ _ hA hw) tw1105 tw1107 (tbp 72 (n := 21) (by decide +kernel)) tw10 tw1108 ⟨rfl, rfl⟩ ⟨rfl, by decide, by decide, pd_X7_likenessNow⟩ ⟨Nat.le_of_ble_eq_true rfl, Nat.le_of_ble_eq_true rfl⟩ ⟨Nat.zero_le _, Nat.zero_le _⟩ (Nat.le_of_ble_eq_true rfl) dX7_digest_79 rfl hp9 (fun v9 h79 hq9 => ?_)
          obtain ⟨r79, rfl, hw⟩ := hq9
          refine aw_callS (pc := 82) (as := [vD r79]) C (fun As hA => met_Jxe99ae_doubleToLongBits_ccdee G l As r79 _ _ hA hw) tw1124 tw1125 tw19 tw1126 ⟨rfl, rfl⟩ ⟨by decide, by decide, pd_Jxe99ae_doubleToLongBits_ccdee⟩ ⟨Nat.le_of_ble_eq_true rfl, Nat.le_of_ble_eq_true rfl⟩ ⟨Nat.zero_le _, Nat.zero_le _⟩ (Nat.le_of_ble_eq_true rfl) dX7_digest_82 rfl (fun v9 h82 hq9 => ?_)
          obtain ⟨r82, rfl, hw⟩ := hq9
          obtain ⟨hp9, hw⟩ := hw
          refine aw_callV (pc := 85) (as := [vL r82]) C ci7 (fun As hA => met_X7_mix G l As a0 r82 _ _ hA hw) tw1115 tw1117 (tbp 73 (n := 21) (by decide +kernel)) tw10 tw1118 ⟨rfl, rfl⟩ ⟨rfl, by decide, by decide, pd_X7_mix⟩ ⟨Nat.le_of_ble_eq_true rfl, Nat.le_of_ble_eq_true rfl⟩ ⟨Nat.zero_le _, Nat.zero_le _⟩ (Nat.le_of_ble_eq_true rfl) dX7_digest_85 rfl hp9 (fun v9 h85 hq9 => ?_)
          obtain ⟨rfl, hw⟩ := hq9
          refine aw_aload_n (pc := 88) C dX7_digest_88 rfl rfl ?_
          refine aw_aload_n (pc := 89) C dX7_digest_89 rfl rfl ?_
          obtain ⟨hp9, hw⟩ := hw
          refine aw_getI (pc := 90) C (ci := 7) (k := 4) ci7 (by decide) tw796 dX7_digest_90 rfl hp9 ?_
          refine aw_i2l (pc := 93) C dX7_digest_93  ?_
          obtain ⟨hp9, hw⟩ := hw
          refine aw_callV (pc := 94) (as := [vL (Int64.ofInt (hfI h85 a0 4))]) C ci7 (fun As hA => met_X7_mix G l As a0 (Int64.ofInt (hfI h85 a0 4)) _ _ hA hw) tw1115 tw1117 (tbp 73 (n := 21) (by decide +kernel)) tw10 tw1118 ⟨rfl, rfl⟩ ⟨rfl, by decide, by decide, pd_X7_mix⟩ ⟨Nat.le_of_ble_eq_true rfl, Nat.le_of_ble_eq_true rfl⟩ ⟨Nat.zero_le _, Nat.zero_le _⟩ (Nat.le_of_ble_eq_true rfl) dX7_digest_94 rfl hp9 (fun v9 h94 hq9 => ?_)
          obtain ⟨rfl, hw⟩ := hq9
          refine aw_iconst (pc := 97) C dX7_digest_97 (i := (0 : Int)) (by decide) ?_
          refine aw_istore_n (pc := 98) C dX7_digest_98 rfl (by rw [hml]; decide) ?_
          obtain ⟨I_99, ⟨n9, hi9⟩, hst9⟩ := hw
          have L_99 : ∀ (n_99 : Nat) (x1_99 : Int) (h_99 : AH), I_99 n_99 x1_99 h_99 → AW G p l e ({ frames := 7, cells := 0, slots := 0, locals := 161 } : Room) s m args below meth c 0 0 (MQ below (QG G (oL Q)) args s 0 0 (frA G)) 99 (eOf [(0, vR a0), (1, vI x1_99)]) [] h_99 := by
            intro n_99
            induction n_99 using Nat.strongRecOn with
            | _ n_99 ih_99 =>
            intro x1_99 h_99 hi9
            have hw := hst9 n_99 x1_99 h_99 hi9
            refine aw_iload_n (pc := 99) C dX7_digest_99 rfl rfl ?_
            refine aw_aload_n (pc := 100) C dX7_digest_100 rfl rfl ?_
            obtain ⟨hp9, hw⟩ := hw
            refine aw_getI (pc := 101) C (ci := 7) (k := 4) ci7 (by decide) tw796 dX7_digest_101 rfl hp9 ?_
            refine aw_icmp_ge (pc := 104) (tgt := 124) C dX7_digest_104 (by decide) (fun hc9 => ?_) (fun hc9 => ?_)
            · have hw := hw.1 hc9
              refine aw_aload_n (pc := 124) C dX7_digest_124 rfl rfl ?_
              obtain ⟨hp9, hw⟩ := hw
              refine aw_getL (pc := 125) C (ci := 7) (k := 20) ci7 (by decide) tw812 dX7_digest_125 rfl hp9 ?_
              exact aw_lret (pc := 128) C hr dX7_digest_128 ⟨Nat.le_of_ble_eq_true rfl, Nat.le_of_ble_eq_true rfl⟩ ⟨_, rfl, hw⟩
            · have hw := hw.2 hc9
              refine aw_aload_n (pc := 107) C dX7_digest_107 rfl rfl ?_
              refine aw_aload_n (pc := 108) C dX7_digest_108 rfl rfl ?_
              obtain ⟨hp9, b109, hb9, hw⟩ := hw
              refine aw_getR (pc := 109) C (ci := 7) (k := 5) ci7 (by decide) tw797 dX7_digest_109 rfl hp9 hb9 ?_
              refine aw_iload_n (pc := 112) C dX7_digest_112 rfl rfl ?_
              obtain ⟨⟨k9, hp9⟩, hw⟩ := hw
              refine aw_iald (pc := 113) C dX7_digest_113 hp9 ?_
              refine aw_i2l (pc := 114) C dX7_digest_114  ?_
              obtain ⟨hp9, hw⟩ := hw
              refine aw_callV (pc := 115) (as := [vL (Int64.ofInt (haI h_99 b109 x1_99))]) C ci7 (fun As hA => met_X7_mix G l As a0 (Int64.ofInt (haI h_99 b109 x1_99)) _ _ hA hw) tw1115 tw1117 (tbp 73 (n := 21) (by decide +kernel)) tw10 tw1118 ⟨rfl, rfl⟩ ⟨rfl, by decide, by decide, pd_X7_mix⟩ ⟨Nat.le_of_ble_eq_true rfl, Nat.le_of_ble_eq_true rfl⟩ ⟨Nat.zero_le _, Nat.zero_le _⟩ (Nat.le_of_ble_eq_true rfl) dX7_digest_115 rfl hp9 (fun v9 h115 hq9 => ?_)
              obtain ⟨rfl, hw⟩ := hq9
              obtain ⟨hp9, hw⟩ := hw
              refine aw_iincN (pc := 118) C dX7_digest_118 (k := 1) (by decide) rfl (by rw [hml]; decide) hp9 (fun x1_118 e9 => ?_)
              have hw := hw x1_118 e9
              refine aw_goto (pc := 121) (tgt := 99) C dX7_digest_121 (by decide) ?_
              obtain ⟨m9, hm9, hw⟩ := hw
              refine aw_sub [(0, vR a0), (1, vI x1_118)] ⟨rfl, rfl, trivial⟩ ?_
              exact ih_99 m9 hm9 _ _ hw
          refine aw_sub [(0, vR a0), (1, vI (0 : Int))] ⟨rfl, rfl, trivial⟩ ?_
          exact L_99 n9 _ _ hi9
        · have hw := hw.2 hc9
          refine aw_aload_n (pc := 48) C dX7_digest_48 rfl rfl ?_
          refine aw_aload_n (pc := 49) C dX7_digest_49 rfl rfl ?_
          refine aw_iload_n (pc := 50) C dX7_digest_50 rfl rfl ?_
          obtain ⟨hp9, hw⟩ := hw
          refine aw_callV (pc := 51) (as := [vI x1_42]) C ci7 (fun As hA => met_X7_of G l As a0 x1_42 _ _ hA hw) tw945 tw947 (tbp 46 (n := 21) (by decide +kernel)) tw10 tw948 ⟨rfl, rfl⟩ ⟨rfl, by decide, by decide, pd_X7_of⟩ ⟨Nat.le_of_ble_eq_true rfl, Nat.le_of_ble_eq_true rfl⟩ ⟨Nat.zero_le _, Nat.zero_le _⟩ (Nat.le_of_ble_eq_true rfl) dX7_digest_51 rfl hp9 (fun v9 h51 hq9 => ?_)
          obtain ⟨r51, rfl, hw⟩ := hq9
          refine aw_i2l (pc := 54) C dX7_digest_54  ?_
          obtain ⟨hp9, hw⟩ := hw
          refine aw_callV (pc := 55) (as := [vL (Int64.ofInt r51)]) C ci7 (fun As hA => met_X7_mix G l As a0 (Int64.ofInt r51) _ _ hA hw) tw1115 tw1117 (tbp 73 (n := 21) (by decide +kernel)) tw10 tw1118 ⟨rfl, rfl⟩ ⟨rfl, by decide, by decide, pd_X7_mix⟩ ⟨Nat.le_of_ble_eq_true rfl, Nat.le_of_ble_eq_true rfl⟩ ⟨Nat.zero_le _, Nat.zero_le _⟩ (Nat.le_of_ble_eq_true rfl) dX7_digest_55 rfl hp9 (fun v9 h55 hq9 => ?_)
          obtain ⟨rfl, hw⟩ := hq9
          obtain ⟨hp9, hw⟩ := hw
          refine aw_iincN (pc := 58) C dX7_digest_58 (k := 1) (by decide) rfl (by rw [hml]; decide) hp9 (fun x1_58 e9 => ?_)
          have hw := hw x1_58 e9
          refine aw_goto (pc := 61) (tgt := 42) C dX7_digest_61 (by decide) ?_
          obtain ⟨m9, hm9, hw⟩ := hw
          refine aw_sub [(0, vR a0), (1, vI x1_58)] ⟨rfl, rfl, trivial⟩ ?_
          exact ih_42 m9 hm9 _ _ hw
      refine aw_sub [(0, vR a0), (1, vI (0 : Int))] ⟨rfl, rfl, trivial⟩ ?_
      exact L_42 n9 _ _ hi9
    · have hw := hw.2 hc9
      refine aw_aload_n (pc := 24) C dX7_digest_24 rfl rfl ?_
      refine aw_aload_n (pc := 25) C dX7_digest_25 rfl rfl ?_
      refine aw_iload_n (pc := 26) C dX7_digest_26 rfl rfl ?_
      obtain ⟨hp9, hw⟩ := hw
      refine aw_callV (pc := 27) (as := [vI x1_18]) C ci7 (fun As hA => met_X7_counted G l As a0 x1_18 _ _ hA hw) tw1073 tw1075 (tbp 68 (n := 21) (by decide +kernel)) tw10 tw1076 ⟨rfl, rfl⟩ ⟨rfl, by decide, by decide, pd_X7_counted⟩ ⟨Nat.le_of_ble_eq_true rfl, Nat.le_of_ble_eq_true rfl⟩ ⟨Nat.zero_le _, Nat.zero_le _⟩ (Nat.le_of_ble_eq_true rfl) dX7_digest_27 rfl hp9 (fun v9 h27 hq9 => ?_)
      obtain ⟨r27, rfl, hw⟩ := hq9
      refine aw_i2l (pc := 30) C dX7_digest_30  ?_
      obtain ⟨hp9, hw⟩ := hw
      refine aw_callV (pc := 31) (as := [vL (Int64.ofInt r27)]) C ci7 (fun As hA => met_X7_mix G l As a0 (Int64.ofInt r27) _ _ hA hw) tw1115 tw1117 (tbp 73 (n := 21) (by decide +kernel)) tw10 tw1118 ⟨rfl, rfl⟩ ⟨rfl, by decide, by decide, pd_X7_mix⟩ ⟨Nat.le_of_ble_eq_true rfl, Nat.le_of_ble_eq_true rfl⟩ ⟨Nat.zero_le _, Nat.zero_le _⟩ (Nat.le_of_ble_eq_true rfl) dX7_digest_31 rfl hp9 (fun v9 h31 hq9 => ?_)
      obtain ⟨rfl, hw⟩ := hq9
      obtain ⟨hp9, hw⟩ := hw
      refine aw_iincN (pc := 34) C dX7_digest_34 (k := 1) (by decide) rfl (by rw [hml]; decide) hp9 (fun x1_34 e9 => ?_)
      have hw := hw x1_34 e9
      refine aw_goto (pc := 37) (tgt := 18) C dX7_digest_37 (by decide) ?_
      obtain ⟨m9, hm9, hw⟩ := hw
      refine aw_sub [(0, vR a0), (1, vI x1_34)] ⟨rfl, rfl, trivial⟩ ?_
      exact ih_18 m9 hm9 _ _ hw
  refine aw_sub [(0, vR a0), (1, vI (0 : Int))] ⟨rfl, rfl, trivial⟩ ?_
  exact L_18 n9 _ _ hi9
