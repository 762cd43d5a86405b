/-! THE METHODS, BY PROGRAM (wip/whole/gen.py): what each means (w_..), and its contract (met_..) -/
theorem dX6_init_0 : decode cX6_init 0 = .ok (.aload_n 0, 1) := by decide +kernel
theorem dX6_init_1 : decode cX6_init 1 = .ok (.invokespecial 3, 3) := by decide +kernel
theorem dX6_init_4 : decode cX6_init 4 = .ok (.aload_n 0, 1) := by decide +kernel
theorem dX6_init_5 : decode cX6_init 5 = .ok (.new 9, 3) := by decide +kernel
theorem dX6_init_8 : decode cX6_init 8 = .ok (.dup, 1) := by decide +kernel
theorem dX6_init_9 : decode cX6_init 9 = .ok (.invokespecial 11, 3) := by decide +kernel
theorem dX6_init_12 : decode cX6_init 12 = .ok (.putfield 12, 3) := by decide +kernel
theorem dX6_init_15 : decode cX6_init 15 = .ok (.aload_n 0, 1) := by decide +kernel
theorem dX6_init_16 : decode cX6_init 16 = .ok (.new 16, 3) := by decide +kernel
theorem dX6_init_19 : decode cX6_init 19 = .ok (.dup, 1) := by decide +kernel
theorem dX6_init_20 : decode cX6_init 20 = .ok (.aload_n 0, 1) := by decide +kernel
theorem dX6_init_21 : decode cX6_init 21 = .ok (.getfield 12, 3) := by decide +kernel
theorem dX6_init_24 : decode cX6_init 24 = .ok (.invokespecial 18, 3) := by decide +kernel
theorem dX6_init_27 : decode cX6_init 27 = .ok (.putfield 21, 3) := by decide +kernel
theorem dX6_init_30 : decode cX6_init 30 = .ok (.aload_n 0, 1) := by decide +kernel
theorem dX6_init_31 : decode cX6_init 31 = .ok (.new 9, 3) := by decide +kernel
theorem dX6_init_34 : decode cX6_init 34 = .ok (.dup, 1) := by decide +kernel
theorem dX6_init_35 : decode cX6_init 35 = .ok (.invokespecial 11, 3) := by decide +kernel
theorem dX6_init_38 : decode cX6_init 38 = .ok (.putfield 25, 3) := by decide +kernel
theorem dX6_init_41 : decode cX6_init 41 = .ok (.aload_n 0, 1) := by decide +kernel
theorem dX6_init_42 : decode cX6_init 42 = .ok (.new 16, 3) := by decide +kernel
theorem dX6_init_45 : decode cX6_init 45 = .ok (.dup, 1) := by decide +kernel
theorem dX6_init_46 : decode cX6_init 46 = .ok (.aload_n 0, 1) := by decide +kernel
theorem dX6_init_47 : decode cX6_init 47 = .ok (.getfield 25, 3) := by decide +kernel
theorem dX6_init_50 : decode cX6_init 50 = .ok (.invokespecial 18, 3) := by decide +kernel
theorem dX6_init_53 : decode cX6_init 53 = .ok (.putfield 28, 3) := by decide +kernel
theorem dX6_init_56 : decode cX6_init 56 = .ok (.aload_n 0, 1) := by decide +kernel
theorem dX6_init_57 : decode cX6_init 57 = .ok (.bipush 6, 2) := by decide +kernel
theorem dX6_init_59 : decode cX6_init 59 = .ok (.anewarray 9, 3) := by decide +kernel
theorem dX6_init_62 : decode cX6_init 62 = .ok (.putfield 31, 3) := by decide +kernel
theorem dX6_init_65 : decode cX6_init 65 = .ok (.aload_n 0, 1) := by decide +kernel
theorem dX6_init_66 : decode cX6_init 66 = .ok (.new 35, 3) := by decide +kernel
theorem dX6_init_69 : decode cX6_init 69 = .ok (.dup, 1) := by decide +kernel
theorem dX6_init_70 : decode cX6_init 70 = .ok (.invokespecial 37, 3) := by decide +kernel
theorem dX6_init_73 : decode cX6_init 73 = .ok (.putfield 38, 3) := by decide +kernel
theorem dX6_init_76 : decode cX6_init 76 = .ok (.aload_n 0, 1) := by decide +kernel
theorem dX6_init_77 : decode cX6_init 77 = .ok (.iconst 0, 1) := by decide +kernel
theorem dX6_init_78 : decode cX6_init 78 = .ok (.putfield 42, 3) := by decide +kernel
theorem dX6_init_81 : decode cX6_init 81 = .ok (.aload_n 0, 1) := by decide +kernel
theorem dX6_init_82 : decode cX6_init 82 = .ok (.iconst 1, 1) := by decide +kernel
theorem dX6_init_83 : decode cX6_init 83 = .ok (.putfield 46, 3) := by decide +kernel
theorem dX6_init_86 : decode cX6_init 86 = .ok (.iconst 0, 1) := by decide +kernel
theorem dX6_init_87 : decode cX6_init 87 = .ok (.istore_n 1, 1) := by decide +kernel
theorem dX6_init_88 : decode cX6_init 88 = .ok (.iload_n 1, 1) := by decide +kernel
theorem dX6_init_89 : decode cX6_init 89 = .ok (.bipush 6, 2) := by decide +kernel
theorem dX6_init_91 : decode cX6_init 91 = .ok (.if_icmp .ge 22, 3) := by decide +kernel
theorem dX6_init_94 : decode cX6_init 94 = .ok (.aload_n 0, 1) := by decide +kernel
theorem dX6_init_95 : decode cX6_init 95 = .ok (.getfield 31, 3) := by decide +kernel
theorem dX6_init_98 : decode cX6_init 98 = .ok (.iload_n 1, 1) := by decide +kernel
theorem dX6_init_99 : decode cX6_init 99 = .ok (.new 9, 3) := by decide +kernel
theorem dX6_init_102 : decode cX6_init 102 = .ok (.dup, 1) := by decide +kernel
theorem dX6_init_103 : decode cX6_init 103 = .ok (.invokespecial 11, 3) := by decide +kernel
theorem dX6_init_106 : decode cX6_init 106 = .ok (.aastore, 1) := by decide +kernel
theorem dX6_init_107 : decode cX6_init 107 = .ok (.iinc 1 1, 3) := by decide +kernel
theorem dX6_init_110 : decode cX6_init 110 = .ok (.goto (-22), 3) := by decide +kernel
theorem dX6_init_113 : decode cX6_init 113 = .ok (.return_, 1) := by decide +kernel
theorem pd_X6_init : (parseMethodDescriptor yX6_init.desc).map (fun d => d.parameters.length) = some 0 := by decide +kernel
def w_X6_init (zz : Nat → Nat) (a0 : Nat) (h : AH) (Q : AH → Prop) : Prop := ∀ h5 : AH, h5 = nOb h 4 → w_X4_init zz (hn h) h5 (fun  (h9 : AH) => okP h9 a0 6 ∧ ∀ h12 : AH, h12 = sfR h9 a0 0 (some (hn h)) → ∀ h16 : AH, h16 = nOb h12 1 → okA h16 a0 6 ∧ ∃ b21 : Nat, hfR h16 a0 0 = some b21 ∧ w_X1_init zz (hn h12) b21 h16 (fun  (h24 : AH) => okP h24 a0 6 ∧ ∀ h27 : AH, h27 = sfR h24 a0 1 (some (hn h12)) → ∀ h31 : AH, h31 = nOb h27 4 → w_X4_init zz (hn h27) h31 (fun  (h35 : AH) => okP h35 a0 6 ∧ ∀ h38 : AH, h38 = sfR h35 a0 2 (some (hn h27)) → ∀ h42 : AH, h42 = nOb h38 1 → okA h42 a0 6 ∧ ∃ b47 : Nat, hfR h42 a0 2 = some b47 ∧ w_X1_init zz (hn h38) b47 h42 (fun  (h50 : AH) => okP h50 a0 6 ∧ ∀ h53 : AH, h53 = sfR h50 a0 3 (some (hn h38)) → ∀ h59 : AH, h59 = nAR h53 6 → okP h59 a0 6 ∧ ∀ h62 : AH, h62 = sfR h59 a0 4 (some (hn h53)) → ∀ h66 : AH, h66 = nOb h62 0 → w_X0_init zz (hn h62) h66 (fun  (h70 : AH) => okP h70 a0 6 ∧ ∀ h73 : AH, h73 = sfR h70 a0 5 (some (hn h62)) → okP h73 a0 6 ∧ ∀ h78 : AH, h78 = sfI h73 a0 6 (0 : Int) → okP h78 a0 6 ∧ ((1 : Int) = 0 ∨ (1 : Int) = 1) ∧ ∀ h83 : AH, h83 = sfI h78 a0 7 (1 : Int) → ∃ I_88 : Nat → Int → AH → Prop, (∃ n, n ≤ 7 ∧ I_88 n (0 : Int) h83) ∧ ∀ (n_88 : Nat) (x1_88 : Int) (h_88 : AH), I_88 n_88 x1_88 h_88 → ((((6 : Int) ≤ x1_88) → Q h_88) ∧ ((¬ ((6 : Int) ≤ x1_88)) → okA h_88 a0 6 ∧ ∃ b95 : Nat, hfR h_88 a0 4 = some b95 ∧ ∀ h99 : AH, h99 = nOb h_88 4 → w_X4_init zz (hn h_88) h99 (fun  (h103 : AH) => okU h103 b95 x1_88 ∧ okA h103 (hn h_88) 4 ∧ ∀ h106 : AH, h106 = saR h103 b95 (u1 (haR h103 b95) x1_88 (some (hn h_88))) → inR (x1_88 + 1) ∧ ∀ x1_107 : Int, x1_107 = (x1_88 + 1) → ∃ m, m < n_88 ∧ I_88 m x1_107 h106))))))))
set_option maxRecDepth 100000 in
set_option maxHeartbeats 4000000 in
theorem met_X6_init (G : GG) (l : Launch) : ∀ (As : List Value) (a0 : Nat) (h : AH) (Q : AH → Prop), As.map ab = List.map some ([vR a0] : List AV) → w_X6_init G.2.2 a0 h Q → Met l yX6_init (.code yX6_init cX6_init 2 none :: xTb) ({ frames := 3, cells := 128, slots := 23333, locals := 63 } : Room) (PcA G As h) (QG G (oV Q)) 128 23333 (frA G) := by
  intro As a0 h Q hA hw
  refine met_of hA (by decide) (Nat.le_of_ble_eq_true rfl) (fun p e s m args below meth c C hml hr hnm => ?_)
  unfold w_X6_init at hw
  refine aw_aload_n (pc := 0) C dX6_init_0 rfl rfl ?_
  refine aw_objInit (pc := 1) C tw25 tw26 tw27 ⟨Nat.le_of_ble_eq_true rfl, Nat.le_of_ble_eq_true rfl⟩ (Nat.le_of_ble_eq_true rfl) dX6_init_1 ?_
  refine aw_aload_n (pc := 4) C dX6_init_4 rfl rfl ?_
  refine aw_new (pc := 5) C ci4 tw28 tw29 tw2 (by decide) dX6_init_5 (by show _ ≤ (128 : Nat); omega) (by show _ ≤ (23333 : Nat); omega) (aw_nmH (fun h5 e9 => ?_))
  have hw := hw h5 e9
  refine aw_dup (pc := 8) C dX6_init_8 rfl ?_
  refine aw_callI (pc := 9) (as := []) C (fun As hA => met_X4_init G l As (hn h) _ _ hA hw) tw30 tw31 tw2 tw32 ⟨rfl, rfl⟩ rfl ⟨by decide, by decide, pd_X4_init⟩ ⟨Nat.le_of_ble_eq_true rfl, Nat.le_of_ble_eq_true rfl⟩ ⟨(by show _ ≤ (128 : Nat); omega), (by show _ ≤ (23333 : Nat); omega)⟩ (Nat.le_of_ble_eq_true rfl) dX6_init_9 rfl (fun v9 h9 hq9 => ?_)
  obtain ⟨rfl, hw⟩ := hq9
  obtain ⟨hp9, hw⟩ := hw
  refine aw_putR (pc := 12) C (ci := 6) (k := 0) ci6 (by decide) tw223 (Or.inr ⟨rfl, hnm, rfl⟩) dX6_init_12 rfl hp9 (aw_nmH (fun h12 e9 => ?_))
  have hw := hw h12 e9
  refine aw_aload_n (pc := 15) C dX6_init_15 rfl rfl ?_
  refine aw_new (pc := 16) C ci1 tw80 tw81 tw6 (by decide) dX6_init_16 (by show _ ≤ (128 : Nat); omega) (by show _ ≤ (23333 : Nat); omega) (aw_nmH (fun h16 e9 => ?_))
  have hw := hw h16 e9
  refine aw_dup (pc := 19) C dX6_init_19 rfl ?_
  refine aw_aload_n (pc := 20) C dX6_init_20 rfl rfl ?_
  obtain ⟨hp9, b21, hb9, hw⟩ := hw
  refine aw_getR (pc := 21) C (ci := 6) (k := 0) ci6 (by decide) tw223 dX6_init_21 rfl hp9 hb9 ?_
  refine aw_callI (pc := 24) (as := [vR b21]) C (fun As hA => met_X1_init G l As (hn h12) b21 _ _ hA hw) tw82 tw83 tw6 tw84 ⟨rfl, rfl⟩ rfl ⟨by decide, by decide, pd_X1_init⟩ ⟨Nat.le_of_ble_eq_true rfl, Nat.le_of_ble_eq_true rfl⟩ ⟨(by show _ ≤ (128 : Nat); omega), (by show _ ≤ (23333 : Nat); omega)⟩ (Nat.le_of_ble_eq_true rfl) dX6_init_24 rfl (fun v9 h24 hq9 => ?_)
  obtain ⟨rfl, hw⟩ := hq9
  obtain ⟨hp9, hw⟩ := hw
  refine aw_putR (pc := 27) C (ci := 6) (k := 1) ci6 (by decide) tw224 (Or.inr ⟨rfl, hnm, rfl⟩) dX6_init_27 rfl hp9 (aw_nmH (fun h27 e9 => ?_))
  have hw := hw h27 e9
  refine aw_aload_n (pc := 30) C dX6_init_30 rfl rfl ?_
  refine aw_new (pc := 31) C ci4 tw28 tw29 tw2 (by decide) dX6_init_31 (by show _ ≤ (128 : Nat); omega) (by show _ ≤ (23333 : Nat); omega) (aw_nmH (fun h31 e9 => ?_))
  have hw := hw h31 e9
  refine aw_dup (pc := 34) C dX6_init_34 rfl ?_
  refine aw_callI (pc := 35) (as := []) C (fun As hA => met_X4_init G l As (hn h27) _ _ hA hw) tw30 tw31 tw2 tw32 ⟨rfl, rfl⟩ rfl ⟨by decide, by decide, pd_X4_init⟩ ⟨Nat.le_of_ble_eq_true rfl, Nat.le_of_ble_eq_true rfl⟩ ⟨(by show _ ≤ (128 : Nat); omega), (by show _ ≤ (23333 : Nat); omega)⟩ (Nat.le_of_ble_eq_true rfl) dX6_init_35 rfl (fun v9 h35 hq9 => ?_)
  obtain ⟨rfl, hw⟩ := hq9
  obtain ⟨hp9, hw⟩ := hw
  refine aw_putR (pc := 38) C (ci := 6) (k := 2) ci6 (by decide) tw225 (Or.inr ⟨rfl, hnm, rfl⟩) dX6_init_38 rfl hp9 (aw_nmH (fun h38 e9 => ?_))
  have hw := hw h38 e9
  refine aw_aload_n (pc := 41) C dX6_init_41 rfl rfl ?_
  refine aw_new (pc := 42) C ci1 tw80 tw81 tw6 (by decide) dX6_init_42 (by show _ ≤ (128 : Nat); omega) (by show _ ≤ (23333 : Nat); omega) (aw_nmH (fun h42 e9 => ?_))
  have hw := hw h42 e9
  refine aw_dup (pc := 45) C dX6_init_45 rfl ?_
  refine aw_aload_n (pc := 46) C dX6_init_46 rfl rfl ?_
  obtain ⟨hp9, b47, hb9, hw⟩ := hw
  refine aw_getR (pc := 47) C (ci := 6) (k := 2) ci6 (by decide) tw225 dX6_init_47 rfl hp9 hb9 ?_
  refine aw_callI (pc := 50) (as := [vR b47]) C (fun As hA => met_X1_init G l As (hn h38) b47 _ _ hA hw) tw82 tw83 tw6 tw84 ⟨rfl, rfl⟩ rfl ⟨by decide, by decide, pd_X1_init⟩ ⟨Nat.le_of_ble_eq_true rfl, Nat.le_of_ble_eq_true rfl⟩ ⟨(by show _ ≤ (128 : Nat); omega), (by show _ ≤ (23333 : Nat); omega)⟩ (Nat.le_of_ble_eq_true rfl) dX6_init_50 rfl (fun v9 h50 hq9 => ?_)
  obtain ⟨rfl, hw⟩ := hq9
  obtain ⟨hp9, hw⟩ := hw
  refine aw_putR (pc := 53) C (ci := 6) (k := 3) ci6 (by decide) tw226 (Or.inr ⟨rfl, hnm, rfl⟩) dX6_init_53 rfl hp9 (aw_nmH (fun h53 e9 => ?_))
  have hw := hw h53 e9
  refine aw_aload_n (pc := 56) C dX6_init_56 rfl rfl ?_
  refine aw_bipush (pc := 57) C dX6_init_57 (i := (6 : Int)) (by decide) ?_
  refine aw_newR (pc := 59) (n := 6) C tw28 C.2.2.2.2.2.2.2.2.2.2.2.2 dX6_init_59 (Nat.le_of_ble_eq_true rfl) (by show _ ≤ (128 : Nat); omega) (by show _ ≤ (23333 : Nat); omega) (aw_nmH (fun h59 e9 => ?_))
  have hw := hw h59 e9
  obtain ⟨hp9, hw⟩ := hw
  refine aw_putR (pc := 62) C (ci := 6) (k := 4) ci6 (by decide) tw227 (Or.inr ⟨rfl, hnm, rfl⟩) dX6_init_62 rfl hp9 (aw_nmH (fun h62 e9 => ?_))
  have hw := hw h62 e9
  refine aw_aload_n (pc := 65) C dX6_init_65 rfl rfl ?_
  refine aw_new (pc := 66) C ci0 tw204 tw205 tw9 (by decide) dX6_init_66 (by show _ ≤ (128 : Nat); omega) (by show _ ≤ (23333 : Nat); omega) (aw_nmH (fun h66 e9 => ?_))
  have hw := hw h66 e9
  refine aw_dup (pc := 69) C dX6_init_69 rfl ?_
  refine aw_callI (pc := 70) (as := []) C (fun As hA => met_X0_init G l As (hn h62) _ _ hA hw) tw206 tw207 tw9 tw208 ⟨rfl, rfl⟩ rfl ⟨by decide, by decide, pd_X0_init⟩ ⟨Nat.le_of_ble_eq_true rfl, Nat.le_of_ble_eq_true rfl⟩ ⟨(by show _ ≤ (128 : Nat); omega), (by show _ ≤ (23333 : Nat); omega)⟩ (Nat.le_of_ble_eq_true rfl) dX6_init_70 rfl (fun v9 h70 hq9 => ?_)
  obtain ⟨rfl, hw⟩ := hq9
  obtain ⟨hp9, hw⟩ := hw
  refine aw_putR (pc := 73) C (ci := 6) (k := 5) ci6 (by decide) tw228 (Or.inr ⟨rfl, hnm, rfl⟩) dX6_init_73 rfl hp9 (aw_nmH (fun h73 e9 => ?_))
  have hw := hw h73 e9
  refine aw_aload_n (pc := 76) C dX6_init_76 rfl rfl ?_
  refine aw_iconst (pc := 77) C dX6_init_77 (i := (0 : Int)) (by decide) ?_
  obtain ⟨hp9, hw⟩ := hw
  refine aw_putI (pc := 78) C (ci := 6) (k := 6) ci6 (by decide) tw229 (Or.inl rfl) dX6_init_78 rfl hp9 (aw_nmH (fun h78 e9 => ?_))
  have hw := hw h78 e9
  refine aw_aload_n (pc := 81) C dX6_init_81 rfl rfl ?_
  refine aw_iconst (pc := 82) C dX6_init_82 (i := (1 : Int)) (by decide) ?_
  obtain ⟨hp9, hz9, hw⟩ := hw
  refine aw_putZ (pc := 83) C (ci := 6) (k := 7) ci6 (by decide) tw230 (Or.inl rfl) dX6_init_83 rfl hp9 hz9 (aw_nmH (fun h83 e9 => ?_))
  have hw := hw h83 e9
  refine aw_iconst (pc := 86) C dX6_init_86 (i := (0 : Int)) (by decide) ?_
  refine aw_istore_n (pc := 87) C dX6_init_87 rfl (by rw [hml]; decide) ?_
  obtain ⟨I_88, ⟨n9, hn9, hi9⟩, hst9⟩ := hw
  have L_88 : ∀ (n_88 : Nat) (x1_88 : Int) (h_88 : AH) (bc9 bs9 : Nat), I_88 n_88 x1_88 h_88 → bc9 + 8 * n_88 + 8 ≤ 128 → bs9 + 257 * n_88 + 257 ≤ 23333 → AW G p l e ({ frames := 3, cells := 128, slots := 23333, locals := 63 } : Room) s m args below meth c bc9 bs9 (MQ below (QG G (oV Q)) args s 128 23333 (frA G)) 88 (eOf [(0, vR a0), (1, vI x1_88)]) [] h_88 := by
    intro n_88
    induction n_88 using Nat.strongRecOn with
    | _ n_88 ih_88 =>
    intro x1_88 h_88 bc9 bs9 hi9 hb9 hs9
    have hw := hst9 n_88 x1_88 h_88 hi9
    refine aw_iload_n (pc := 88) C dX6_init_88 rfl rfl ?_
    refine aw_bipush (pc := 89) C dX6_init_89 (i := (6 : Int)) (by decide) ?_
    refine aw_icmp_ge (pc := 91) (tgt := 113) C dX6_init_91 (by decide) (fun hc9 => ?_) (fun hc9 => ?_)
    · have hw := hw.1 hc9
      exact aw_vret (pc := 113) C hr dX6_init_113 ⟨by omega, by omega⟩ ⟨rfl, hw⟩
    · have hw := hw.2 hc9
      refine aw_aload_n (pc := 94) C dX6_init_94 rfl rfl ?_
      obtain ⟨hp9, b95, hb9, hw⟩ := hw
      refine aw_getR (pc := 95) C (ci := 6) (k := 4) ci6 (by decide) tw227 dX6_init_95 rfl hp9 hb9 ?_
      refine aw_iload_n (pc := 98) C dX6_init_98 rfl rfl ?_
      refine aw_new (pc := 99) C ci4 tw28 tw29 tw2 (by decide) dX6_init_99 (by show _ ≤ (128 : Nat); omega) (by show _ ≤ (23333 : Nat); omega) (aw_nmH (fun h99 e9 => ?_))
      have hw := hw h99 e9
      refine aw_dup (pc := 102) C dX6_init_102 rfl ?_
      refine aw_callI (pc := 103) (as := []) C (fun As hA => met_X4_init G l As (hn h_88) _ _ hA hw) tw30 tw31 tw2 tw32 ⟨rfl, rfl⟩ rfl ⟨by decide, by decide, pd_X4_init⟩ ⟨Nat.le_of_ble_eq_true rfl, Nat.le_of_ble_eq_true rfl⟩ ⟨(by show _ ≤ (128 : Nat); omega), (by show _ ≤ (23333 : Nat); omega)⟩ (Nat.le_of_ble_eq_true rfl) dX6_init_103 rfl (fun v9 h103 hq9 => ?_)
      obtain ⟨rfl, hw⟩ := hq9
      obtain ⟨⟨k9, hp9⟩, hz9, hw⟩ := hw
      refine aw_aast (pc := 106) C dX6_init_106 hp9 hz9 (aw_nmH (fun h106 e9 => ?_))
      have hw := hw h106 e9
      obtain ⟨hp9, hw⟩ := hw
      refine aw_iincN (pc := 107) C dX6_init_107 (k := 1) (by decide) rfl (by rw [hml]; decide) hp9 (fun x1_107 e9 => ?_)
      have hw := hw x1_107 e9
      refine aw_goto (pc := 110) (tgt := 88) C dX6_init_110 (by decide) ?_
      obtain ⟨m9, hm9, hw⟩ := hw
      refine aw_sub [(0, vR a0), (1, vI x1_107)] ⟨rfl, rfl, trivial⟩ ?_
      exact ih_88 m9 hm9 _ _ _ _ hw (by omega) (by omega)
  refine aw_sub [(0, vR a0), (1, vI (0 : Int))] ⟨rfl, rfl, trivial⟩ ?_
  exact L_88 n9 _ _ _ _ hi9 (by omega) (by omega)
theorem dX6_save_0 : decode cX6_save 0 = .ok (.aload_n 0, 1) := by decide +kernel
theorem dX6_save_1 : decode cX6_save 1 = .ok (.getfield 42, 3) := by decide +kernel
theorem dX6_save_4 : decode cX6_save 4 = .ok (.bipush 6, 2) := by decide +kernel
theorem dX6_save_6 : decode cX6_save 6 = .ok (.if_icmp .lt 50, 3) := by decide +kernel
theorem dX6_save_9 : decode cX6_save 9 = .ok (.aload_n 0, 1) := by decide +kernel
theorem dX6_save_10 : decode cX6_save 10 = .ok (.getfield 31, 3) := by decide +kernel
theorem dX6_save_13 : decode cX6_save 13 = .ok (.iconst 0, 1) := by decide +kernel
theorem dX6_save_14 : decode cX6_save 14 = .ok (.aaload, 1) := by decide +kernel
theorem dX6_save_15 : decode cX6_save 15 = .ok (.astore_n 1, 1) := by decide +kernel
theorem dX6_save_16 : decode cX6_save 16 = .ok (.iconst 1, 1) := by decide +kernel
theorem dX6_save_17 : decode cX6_save 17 = .ok (.istore_n 2, 1) := by decide +kernel
theorem dX6_save_18 : decode cX6_save 18 = .ok (.iload_n 2, 1) := by decide +kernel
theorem dX6_save_19 : decode cX6_save 19 = .ok (.bipush 6, 2) := by decide +kernel
theorem dX6_save_21 : decode cX6_save 21 = .ok (.if_icmp .ge 23, 3) := by decide +kernel
theorem dX6_save_24 : decode cX6_save 24 = .ok (.aload_n 0, 1) := by decide +kernel
theorem dX6_save_25 : decode cX6_save 25 = .ok (.getfield 31, 3) := by decide +kernel
theorem dX6_save_28 : decode cX6_save 28 = .ok (.iload_n 2, 1) := by decide +kernel
theorem dX6_save_29 : decode cX6_save 29 = .ok (.iconst 1, 1) := by decide +kernel
theorem dX6_save_30 : decode cX6_save 30 = .ok (.isub, 1) := by decide +kernel
theorem dX6_save_31 : decode cX6_save 31 = .ok (.aload_n 0, 1) := by decide +kernel
theorem dX6_save_32 : decode cX6_save 32 = .ok (.getfield 31, 3) := by decide +kernel
theorem dX6_save_35 : decode cX6_save 35 = .ok (.iload_n 2, 1) := by decide +kernel
theorem dX6_save_36 : decode cX6_save 36 = .ok (.aaload, 1) := by decide +kernel
theorem dX6_save_37 : decode cX6_save 37 = .ok (.aastore, 1) := by decide +kernel
theorem dX6_save_38 : decode cX6_save 38 = .ok (.iinc 2 1, 3) := by decide +kernel
theorem dX6_save_41 : decode cX6_save 41 = .ok (.goto (-23), 3) := by decide +kernel
theorem dX6_save_44 : decode cX6_save 44 = .ok (.aload_n 0, 1) := by decide +kernel
theorem dX6_save_45 : decode cX6_save 45 = .ok (.getfield 31, 3) := by decide +kernel
theorem dX6_save_48 : decode cX6_save 48 = .ok (.iconst 5, 1) := by decide +kernel
theorem dX6_save_49 : decode cX6_save 49 = .ok (.aload_n 1, 1) := by decide +kernel
theorem dX6_save_50 : decode cX6_save 50 = .ok (.aastore, 1) := by decide +kernel
theorem dX6_save_51 : decode cX6_save 51 = .ok (.aload_n 0, 1) := by decide +kernel
theorem dX6_save_52 : decode cX6_save 52 = .ok (.iconst 5, 1) := by decide +kernel
theorem dX6_save_53 : decode cX6_save 53 = .ok (.putfield 42, 3) := by decide +kernel
theorem dX6_save_56 : decode cX6_save 56 = .ok (.aload_n 0, 1) := by decide +kernel
theorem dX6_save_57 : decode cX6_save 57 = .ok (.getfield 31, 3) := by decide +kernel
theorem dX6_save_60 : decode cX6_save 60 = .ok (.aload_n 0, 1) := by decide +kernel
theorem dX6_save_61 : decode cX6_save 61 = .ok (.getfield 42, 3) := by decide +kernel
theorem dX6_save_64 : decode cX6_save 64 = .ok (.aaload, 1) := by decide +kernel
theorem dX6_save_65 : decode cX6_save 65 = .ok (.aload_n 0, 1) := by decide +kernel
theorem dX6_save_66 : decode cX6_save 66 = .ok (.getfield 12, 3) := by decide +kernel
theorem dX6_save_69 : decode cX6_save 69 = .ok (.invokevirtual 143, 3) := by decide +kernel
theorem dX6_save_72 : decode cX6_save 72 = .ok (.aload_n 0, 1) := by decide +kernel
theorem dX6_save_73 : decode cX6_save 73 = .ok (.dup, 1) := by decide +kernel
theorem dX6_save_74 : decode cX6_save 74 = .ok (.getfield 42, 3) := by decide +kernel
theorem dX6_save_77 : decode cX6_save 77 = .ok (.iconst 1, 1) := by decide +kernel
theorem dX6_save_78 : decode cX6_save 78 = .ok (.iadd, 1) := by decide +kernel
theorem dX6_save_79 : decode cX6_save 79 = .ok (.putfield 42, 3) := by decide +kernel
theorem dX6_save_82 : decode cX6_save 82 = .ok (.aload_n 0, 1) := by decide +kernel
theorem dX6_save_83 : decode cX6_save 83 = .ok (.iconst 1, 1) := by decide +kernel
theorem dX6_save_84 : decode cX6_save 84 = .ok (.putfield 46, 3) := by decide +kernel
theorem dX6_save_87 : decode cX6_save 87 = .ok (.return_, 1) := by decide +kernel
theorem pd_X6_save : (parseMethodDescriptor yX6_save.desc).map (fun d => d.parameters.length) = some 0 := by decide +kernel
def w_X6_save (zz : Nat → Nat) (a0 : Nat) (h : AH) (Q : AH → Prop) : Prop := okA h a0 6 ∧ jn (fun  (h_56 : AH) => okA h_56 a0 6 ∧ ∃ b57 : Nat, hfR h_56 a0 4 = some b57 ∧ okA h_56 a0 6 ∧ okQ h_56 b57 (hfI h_56 a0 6) ∧ ∃ b64 : Nat, haR h_56 b57 (hfI h_56 a0 6) = some b64 ∧ okA h_56 a0 6 ∧ ∃ b66 : Nat, hfR h_56 a0 0 = some b66 ∧ okA h_56 b64 4 ∧ w_X4_copyFrom zz b64 b66 h_56 (fun  (h69 : AH) => okA h69 a0 6 ∧ inR ((hfI h69 a0 6) + (1 : Int)) ∧ okP h69 a0 6 ∧ ∀ h79 : AH, h79 = sfI h69 a0 6 ((hfI h69 a0 6) + (1 : Int)) → okP h79 a0 6 ∧ ((1 : Int) = 0 ∨ (1 : Int) = 1) ∧ ∀ h84 : AH, h84 = sfI h79 a0 7 (1 : Int) → Q h84)) (fun k_56 : AH → Prop => (((hfI h a0 6) < (6 : Int)) → k_56  h) ∧ ((¬ ((hfI h a0 6) < (6 : Int))) → okA h a0 6 ∧ ∃ b10 : Nat, hfR h a0 4 = some b10 ∧ okQ h b10 (0 : Int) ∧ ∃ b14 : Nat, haR h b10 (0 : Int) = some b14 ∧ ∃ I_18 : Nat → Int → AH → Prop, (∃ n, I_18 n (1 : Int) h) ∧ ∀ (n_18 : Nat) (x2_18 : Int) (h_18 : AH), I_18 n_18 x2_18 h_18 → ((((6 : Int) ≤ x2_18) → okA h_18 a0 6 ∧ ∃ b45 : Nat, hfR h_18 a0 4 = some b45 ∧ okU h_18 b45 (5 : Int) ∧ okA h_18 b14 4 ∧ ∀ h50 : AH, h50 = saR h_18 b45 (u1 (haR h_18 b45) (5 : Int) (some b14)) → okP h50 a0 6 ∧ ∀ h53 : AH, h53 = sfI h50 a0 6 (5 : Int) → k_56  h53) ∧ ((¬ ((6 : Int) ≤ x2_18)) → okA h_18 a0 6 ∧ ∃ b25 : Nat, hfR h_18 a0 4 = some b25 ∧ inR (x2_18 - (1 : Int)) ∧ okA h_18 a0 6 ∧ ∃ b32 : Nat, hfR h_18 a0 4 = some b32 ∧ okQ h_18 b32 x2_18 ∧ ∃ b36 : Nat, haR h_18 b32 x2_18 = some b36 ∧ okU h_18 b25 (x2_18 - (1 : Int)) ∧ okA h_18 b36 4 ∧ ∀ h37 : AH, h37 = saR h_18 b25 (u1 (haR h_18 b25) (x2_18 - (1 : Int)) (some b36)) → inR (x2_18 + 1) ∧ ∀ x2_38 : Int, x2_38 = (x2_18 + 1) → ∃ m, m < n_18 ∧ I_18 m x2_38 h37))))
set_option maxRecDepth 100000 in
set_option maxHeartbeats 4000000 in
theorem met_X6_save (G : GG) (l : Launch) : ∀ (As : List Value) (a0 : Nat) (h : AH) (Q : AH → Prop), As.map ab = List.map some ([vR a0] : List AV) → w_X6_save G.2.2 a0 h Q → Met l yX6_save (.code yX6_save cX6_save 3 none :: xTb) ({ frames := 3, cells := 0, slots := 0, locals := 82 } : Room) (PcA G As h) (QG G (oV Q)) 0 0 (frA G) := by
  intro As a0 h Q hA hw
  refine met_of hA (by decide) (Nat.le_of_ble_eq_true rfl) (fun p e s m args below meth c C hml hr hnm => ?_)
  unfold w_X6_save at hw
  refine aw_aload_n (pc := 0) C dX6_save_0 rfl rfl ?_
  obtain ⟨hp9, hw⟩ := hw
  refine aw_getI (pc := 1) C (ci := 6) (k := 6) ci6 (by decide) tw229 dX6_save_1 rfl hp9 ?_
  refine aw_bipush (pc := 4) C dX6_save_4 (i := (6 : Int)) (by decide) ?_
  obtain ⟨k_56, hk_56, hw⟩ := jn_out hw
  have J_56 : ∀  (h_56 : AH), k_56  h_56 → AW G p l e ({ frames := 3, cells := 0, slots := 0, locals := 82 } : Room) s m args below meth c 0 0 (MQ below (QG G (oV Q)) args s 0 0 (frA G)) 56 (eOf [(0, vR a0)]) [] h_56 := by
    intro  h_56 hw
    rw [hk_56] at hw
    refine aw_aload_n (pc := 56) C dX6_save_56 rfl rfl ?_
    obtain ⟨hp9, b57, hb9, hw⟩ := hw
    refine aw_getR (pc := 57) C (ci := 6) (k := 4) ci6 (by decide) tw227 dX6_save_57 rfl hp9 hb9 ?_
    refine aw_aload_n (pc := 60) C dX6_save_60 rfl rfl ?_
    obtain ⟨hp9, hw⟩ := hw
    refine aw_getI (pc := 61) C (ci := 6) (k := 6) ci6 (by decide) tw229 dX6_save_61 rfl hp9 ?_
    obtain ⟨⟨k9, hp9⟩, b64, hb9, hw⟩ := hw
    refine aw_aald (pc := 64) C dX6_save_64 hp9 hb9 ?_
    refine aw_aload_n (pc := 65) C dX6_save_65 rfl rfl ?_
    obtain ⟨hp9, b66, hb9, hw⟩ := hw
    refine aw_getR (pc := 66) C (ci := 6) (k := 0) ci6 (by decide) tw223 dX6_save_66 rfl hp9 hb9 ?_
    obtain ⟨hp9, hw⟩ := hw
    refine aw_callV (pc := 69) (as := [vR b66]) C ci4 (fun As hA => met_X4_copyFrom G l As b64 b66 _ _ hA hw) tw256 tw257 tw258 tw2 tw259 ⟨rfl, rfl⟩ ⟨rfl, by decide, by decide, pd_X4_copyFrom⟩ ⟨Nat.le_of_ble_eq_true rfl, Nat.le_of_ble_eq_true rfl⟩ ⟨Nat.zero_le _, Nat.zero_le _⟩ (Nat.le_of_ble_eq_true rfl) dX6_save_69 rfl hp9 (fun v9 h69 hq9 => ?_)
    obtain ⟨rfl, hw⟩ := hq9
    refine aw_aload_n (pc := 72) C dX6_save_72 rfl rfl ?_
    refine aw_dup (pc := 73) C dX6_save_73 rfl ?_
    obtain ⟨hp9, hw⟩ := hw
    refine aw_getI (pc := 74) C (ci := 6) (k := 6) ci6 (by decide) tw229 dX6_save_74 rfl hp9 ?_
    refine aw_iconst (pc := 77) C dX6_save_77 (i := (1 : Int)) (by decide) ?_
    obtain ⟨hp9, hw⟩ := hw
    refine aw_iadd (pc := 78) C dX6_save_78 hp9 ?_
    obtain ⟨hp9, hw⟩ := hw
    refine aw_putI (pc := 79) C (ci := 6) (k := 6) ci6 (by decide) tw229 (Or.inl rfl) dX6_save_79 rfl hp9 (aw_nmH (fun h79 e9 => ?_))
    have hw := hw h79 e9
    refine aw_aload_n (pc := 82) C dX6_save_82 rfl rfl ?_
    refine aw_iconst (pc := 83) C dX6_save_83 (i := (1 : Int)) (by decide) ?_
    obtain ⟨hp9, hz9, hw⟩ := hw
    refine aw_putZ (pc := 84) C (ci := 6) (k := 7) ci6 (by decide) tw230 (Or.inl rfl) dX6_save_84 rfl hp9 hz9 (aw_nmH (fun h84 e9 => ?_))
    have hw := hw h84 e9
    exact aw_vret (pc := 87) C hr dX6_save_87 ⟨Nat.le_of_ble_eq_true rfl, Nat.le_of_ble_eq_true rfl⟩ ⟨rfl, hw⟩
  refine aw_icmp_lt (pc := 6) (tgt := 56) C dX6_save_6 (by decide) (fun hc9 => ?_) (fun hc9 => ?_)
  · have hw := hw.1 hc9
    refine aw_sub [(0, vR a0)] ⟨rfl, trivial⟩ ?_
    exact J_56  _ hw
  · have hw := hw.2 hc9
    refine aw_aload_n (pc := 9) C dX6_save_9 rfl rfl ?_
    obtain ⟨hp9, b10, hb9, hw⟩ := hw
    refine aw_getR (pc := 10) C (ci := 6) (k := 4) ci6 (by decide) tw227 dX6_save_10 rfl hp9 hb9 ?_
    refine aw_iconst (pc := 13) C dX6_save_13 (i := (0 : Int)) (by decide) ?_
    obtain ⟨⟨k9, hp9⟩, b14, hb9, hw⟩ := hw
    refine aw_aald (pc := 14) C dX6_save_14 hp9 hb9 ?_
    refine aw_astore_n (pc := 15) C dX6_save_15 rfl (by rw [hml]; decide) ?_
    refine aw_iconst (pc := 16) C dX6_save_16 (i := (1 : Int)) (by decide) ?_
    refine aw_istore_n (pc := 17) C dX6_save_17 rfl (by rw [hml]; decide) ?_
    obtain ⟨I_18, ⟨n9, hi9⟩, hst9⟩ := hw
    have L_18 : ∀ (n_18 : Nat) (x2_18 : Int) (h_18 : AH), I_18 n_18 x2_18 h_18 → AW G p l e ({ frames := 3, cells := 0, slots := 0, locals := 82 } : Room) s m args below meth c 0 0 (MQ below (QG G (oV Q)) args s 0 0 (frA G)) 18 (eOf [(0, vR a0), (1, vR b14), (2, vI x2_18)]) [] h_18 := by
      intro n_18
      induction n_18 using Nat.strongRecOn with
      | _ n_18 ih_18 =>
      intro x2_18 h_18 hi9
      have hw := hst9 n_18 x2_18 h_18 hi9
      refine aw_iload_n (pc := 18) C dX6_save_18 rfl rfl ?_
      refine aw_bipush (pc := 19) C dX6_save_19 (i := (6 : Int)) (by decide) ?_
      refine aw_icmp_ge (pc := 21) (tgt := 44) C dX6_save_21 (by decide) (fun hc9 => ?_) (fun hc9 => ?_)
      · have hw := hw.1 hc9
        refine aw_aload_n (pc := 44) C dX6_save_44 rfl rfl ?_
        obtain ⟨hp9, b45, hb9, hw⟩ := hw
        refine aw_getR (pc := 45) C (ci := 6) (k := 4) ci6 (by decide) tw227 dX6_save_45 rfl hp9 hb9 ?_
        refine aw_iconst (pc := 48) C dX6_save_48 (i := (5 : Int)) (by decide) ?_
        refine aw_aload_n (pc := 49) C dX6_save_49 rfl rfl ?_
        obtain ⟨⟨k9, hp9⟩, hz9, hw⟩ := hw
        refine aw_aast (pc := 50) C dX6_save_50 hp9 hz9 (aw_nmH (fun h50 e9 => ?_))
        have hw := hw h50 e9
        refine aw_aload_n (pc := 51) C dX6_save_51 rfl rfl ?_
        refine aw_iconst (pc := 52) C dX6_save_52 (i := (5 : Int)) (by decide) ?_
        obtain ⟨hp9, hw⟩ := hw
        refine aw_putI (pc := 53) C (ci := 6) (k := 6) ci6 (by decide) tw229 (Or.inl rfl) dX6_save_53 rfl hp9 (aw_nmH (fun h53 e9 => ?_))
        have hw := hw h53 e9
        refine aw_sub [(0, vR a0)] ⟨rfl, trivial⟩ ?_
        exact J_56  _ hw
      · have hw := hw.2 hc9
        refine aw_aload_n (pc := 24) C dX6_save_24 rfl rfl ?_
        obtain ⟨hp9, b25, hb9, hw⟩ := hw
        refine aw_getR (pc := 25) C (ci := 6) (k := 4) ci6 (by decide) tw227 dX6_save_25 rfl hp9 hb9 ?_
        refine aw_iload_n (pc := 28) C dX6_save_28 rfl rfl ?_
        refine aw_iconst (pc := 29) C dX6_save_29 (i := (1 : Int)) (by decide) ?_
        obtain ⟨hp9, hw⟩ := hw
        refine aw_isub (pc := 30) C dX6_save_30 hp9 ?_
        refine aw_aload_n (pc := 31) C dX6_save_31 rfl rfl ?_
        obtain ⟨hp9, b32, hb9, hw⟩ := hw
        refine aw_getR (pc := 32) C (ci := 6) (k := 4) ci6 (by decide) tw227 dX6_save_32 rfl hp9 hb9 ?_
        refine aw_iload_n (pc := 35) C dX6_save_35 rfl rfl ?_
        obtain ⟨⟨k9, hp9⟩, b36, hb9, hw⟩ := hw
        refine aw_aald (pc := 36) C dX6_save_36 hp9 hb9 ?_
        obtain ⟨⟨k9, hp9⟩, hz9, hw⟩ := hw
        refine aw_aast (pc := 37) C dX6_save_37 hp9 hz9 (aw_nmH (fun h37 e9 => ?_))
        have hw := hw h37 e9
        obtain ⟨hp9, hw⟩ := hw
        refine aw_iincN (pc := 38) C dX6_save_38 (k := 1) (by decide) rfl (by rw [hml]; decide) hp9 (fun x2_38 e9 => ?_)
        have hw := hw x2_38 e9
        refine aw_goto (pc := 41) (tgt := 18) C dX6_save_41 (by decide) ?_
        obtain ⟨m9, hm9, hw⟩ := hw
        refine aw_sub [(0, vR a0), (1, vR b14), (2, vI x2_38)] ⟨rfl, rfl, rfl, trivial⟩ ?_
        exact ih_18 m9 hm9 _ _ hw
    refine aw_sub [(0, vR a0), (1, vR b14), (2, vI (1 : Int))] ⟨rfl, rfl, rfl, trivial⟩ ?_
    exact L_18 n9 _ _ hi9
theorem dX6_begin_0 : decode cX6_begin 0 = .ok (.aload_n 0, 1) := by decide +kernel
theorem dX6_begin_1 : decode cX6_begin 1 = .ok (.invokevirtual 50, 3) := by decide +kernel
theorem dX6_begin_4 : decode cX6_begin 4 = .ok (.aload_n 0, 1) := by decide +kernel
theorem dX6_begin_5 : decode cX6_begin 5 = .ok (.getfield 12, 3) := by decide +kernel
theorem dX6_begin_8 : decode cX6_begin 8 = .ok (.iconst 0, 1) := by decide +kernel
theorem dX6_begin_9 : decode cX6_begin 9 = .ok (.invokevirtual 53, 3) := by decide +kernel
theorem dX6_begin_12 : decode cX6_begin 12 = .ok (.getfield 57, 3) := by decide +kernel
theorem dX6_begin_15 : decode cX6_begin 15 = .ok (.aload_n 0, 1) := by decide +kernel
theorem dX6_begin_16 : decode cX6_begin 16 = .ok (.getfield 12, 3) := by decide +kernel
theorem dX6_begin_19 : decode cX6_begin 19 = .ok (.iconst 1, 1) := by decide +kernel
theorem dX6_begin_20 : decode cX6_begin 20 = .ok (.invokevirtual 53, 3) := by decide +kernel
theorem dX6_begin_23 : decode cX6_begin 23 = .ok (.getfield 57, 3) := by decide +kernel
theorem dX6_begin_26 : decode cX6_begin 26 = .ok (.iadd, 1) := by decide +kernel
theorem dX6_begin_27 : decode cX6_begin 27 = .ok (.istore_n 1, 1) := by decide +kernel
theorem dX6_begin_28 : decode cX6_begin 28 = .ok (.aload_n 0, 1) := by decide +kernel
theorem dX6_begin_29 : decode cX6_begin 29 = .ok (.getfield 12, 3) := by decide +kernel
theorem dX6_begin_32 : decode cX6_begin 32 = .ok (.invokevirtual 62, 3) := by decide +kernel
theorem dX6_begin_35 : decode cX6_begin 35 = .ok (.iload_n 1, 1) := by decide +kernel
theorem dX6_begin_36 : decode cX6_begin 36 = .ok (.ireturn, 1) := by decide +kernel
theorem pd_X6_begin : (parseMethodDescriptor yX6_begin.desc).map (fun d => d.parameters.length) = some 0 := by decide +kernel
def w_X6_begin (zz : Nat → Nat) (a0 : Nat) (h : AH) (Q : Int → AH → Prop) : Prop := okA h a0 6 ∧ w_X6_save zz a0 h (fun  (h1 : AH) => okA h1 a0 6 ∧ ∃ b5 : Nat, hfR h1 a0 0 = some b5 ∧ okA h1 b5 4 ∧ w_X4_text zz b5 (0 : Int) h1 (fun (r9 : Nat) (h9 : AH) => okA h9 r9 5 ∧ okA h9 a0 6 ∧ ∃ b16 : Nat, hfR h9 a0 0 = some b16 ∧ okA h9 b16 4 ∧ w_X4_text zz b16 (1 : Int) h9 (fun (r20 : Nat) (h20 : AH) => okA h20 r20 5 ∧ inR ((hfI h9 r9 2) + (hfI h20 r20 2)) ∧ ∀ x1_27 : Int, x1_27 = ((hfI h9 r9 2) + (hfI h20 r20 2)) → okA h20 a0 6 ∧ ∃ b29 : Nat, hfR h20 a0 0 = some b29 ∧ okA h20 b29 4 ∧ w_X4_clear zz b29 h20 (fun  (h32 : AH) => Q x1_27 h32))))
set_option maxRecDepth 100000 in
set_option maxHeartbeats 4000000 in
theorem met_X6_begin (G : GG) (l : Launch) : ∀ (As : List Value) (a0 : Nat) (h : AH) (Q : Int → AH → Prop), As.map ab = List.map some ([vR a0] : List AV) → w_X6_begin G.2.2 a0 h Q → Met l yX6_begin (.code yX6_begin cX6_begin 2 (some .int) :: xTb) ({ frames := 4, cells := 0, slots := 0, locals := 104 } : Room) (PcA G As h) (QG G (oI Q)) 0 0 (frA G) := by
  intro As a0 h Q hA hw
  refine met_of hA (by decide) (Nat.le_of_ble_eq_true rfl) (fun p e s m args below meth c C hml hr hnm => ?_)
  unfold w_X6_begin at hw
  refine aw_aload_n (pc := 0) C dX6_begin_0 rfl rfl ?_
  obtain ⟨hp9, hw⟩ := hw
  refine aw_callV (pc := 1) (as := []) C ci6 (fun As hA => met_X6_save G l As a0 _ _ hA hw) tw252 tw254 (tbp 0 (n := 8) (by decide +kernel)) tw1 tw255 ⟨rfl, rfl⟩ ⟨rfl, by decide, by decide, pd_X6_save⟩ ⟨Nat.le_of_ble_eq_true rfl, Nat.le_of_ble_eq_true rfl⟩ ⟨Nat.zero_le _, Nat.zero_le _⟩ (Nat.le_of_ble_eq_true rfl) dX6_begin_1 rfl hp9 (fun v9 h1 hq9 => ?_)
  obtain ⟨rfl, hw⟩ := hq9
  refine aw_aload_n (pc := 4) C dX6_begin_4 rfl rfl ?_
  obtain ⟨hp9, b5, hb9, hw⟩ := hw
  refine aw_getR (pc := 5) C (ci := 6) (k := 0) ci6 (by decide) tw223 dX6_begin_5 rfl hp9 hb9 ?_
  refine aw_iconst (pc := 8) C dX6_begin_8 (i := (0 : Int)) (by decide) ?_
  obtain ⟨hp9, hw⟩ := hw
  refine aw_callV (pc := 9) (as := [vI (0 : Int)]) C ci4 (fun As hA => met_X4_text G l As b5 (0 : Int) _ _ hA hw) tw265 tw266 tw267 tw2 tw268 ⟨rfl, rfl⟩ ⟨rfl, by decide, by decide, pd_X4_text⟩ ⟨Nat.le_of_ble_eq_true rfl, Nat.le_of_ble_eq_true rfl⟩ ⟨Nat.zero_le _, Nat.zero_le _⟩ (Nat.le_of_ble_eq_true rfl) dX6_begin_9 rfl hp9 (fun v9 h9 hq9 => ?_)
  obtain ⟨r9, rfl, hw⟩ := hq9
  obtain ⟨hp9, hw⟩ := hw
  refine aw_getI (pc := 12) C (ci := 5) (k := 2) ci5 (by decide) tw49 dX6_begin_12 rfl hp9 ?_
  refine aw_aload_n (pc := 15) C dX6_begin_15 rfl rfl ?_
  obtain ⟨hp9, b16, hb9, hw⟩ := hw
  refine aw_getR (pc := 16) C (ci := 6) (k := 0) ci6 (by decide) tw223 dX6_begin_16 rfl hp9 hb9 ?_
  refine aw_iconst (pc := 19) C dX6_begin_19 (i := (1 : Int)) (by decide) ?_
  obtain ⟨hp9, hw⟩ := hw
  refine aw_callV (pc := 20) (as := [vI (1 : Int)]) C ci4 (fun As hA => met_X4_text G l As b16 (1 : Int) _ _ hA hw) tw265 tw266 tw267 tw2 tw268 ⟨rfl, rfl⟩ ⟨rfl, by decide, by decide, pd_X4_text⟩ ⟨Nat.le_of_ble_eq_true rfl, Nat.le_of_ble_eq_true rfl⟩ ⟨Nat.zero_le _, Nat.zero_le _⟩ (Nat.le_of_ble_eq_true rfl) dX6_begin_20 rfl hp9 (fun v9 h20 hq9 => ?_)
  obtain ⟨r20, rfl, hw⟩ := hq9
  obtain ⟨hp9, hw⟩ := hw
  refine aw_getI (pc := 23) C (ci := 5) (k := 2) ci5 (by decide) tw49 dX6_begin_23 rfl hp9 ?_
  obtain ⟨hp9, hw⟩ := hw
  refine aw_iadd (pc := 26) C dX6_begin_26 hp9 ?_
  refine aw_nmI (fun x1_27 e9 => ?_)
  have hw := hw x1_27 e9
  refine aw_istore_n (pc := 27) C dX6_begin_27 rfl (by rw [hml]; decide) ?_
  refine aw_aload_n (pc := 28) C dX6_begin_28 rfl rfl ?_
  obtain ⟨hp9, b29, hb9, hw⟩ := hw
  refine aw_getR (pc := 29) C (ci := 6) (k := 0) ci6 (by decide) tw223 dX6_begin_29 rfl hp9 hb9 ?_
  obtain ⟨hp9, hw⟩ := hw
  refine aw_callV (pc := 32) (as := []) C ci4 (fun As hA => met_X4_clear G l As b29 _ _ hA hw) tw269 tw270 tw271 tw2 tw272 ⟨rfl, rfl⟩ ⟨rfl, by decide, by decide, pd_X4_clear⟩ ⟨Nat.le_of_ble_eq_true rfl, Nat.le_of_ble_eq_true rfl⟩ ⟨Nat.zero_le _, Nat.zero_le _⟩ (Nat.le_of_ble_eq_true rfl) dX6_begin_32 rfl hp9 (fun v9 h32 hq9 => ?_)
  obtain ⟨rfl, hw⟩ := hq9
  refine aw_iload_n (pc := 35) C dX6_begin_35 rfl rfl ?_
  exact aw_iret (pc := 36) C hr dX6_begin_36 ⟨Nat.le_of_ble_eq_true rfl, Nat.le_of_ble_eq_true rfl⟩ ⟨_, rfl, hw⟩
theorem dX6_refresh_0 : decode cX6_refresh 0 = .ok (.aload_n 0, 1) := by decide +kernel
theorem dX6_refresh_1 : decode cX6_refresh 1 = .ok (.getfield 46, 3) := by decide +kernel
theorem dX6_refresh_4 : decode cX6_refresh 4 = .ok (.ifCond .eq 15, 3) := by decide +kernel
theorem dX6_refresh_7 : decode cX6_refresh 7 = .ok (.aload_n 0, 1) := by decide +kernel
theorem dX6_refresh_8 : decode cX6_refresh 8 = .ok (.getfield 21, 3) := by decide +kernel
theorem dX6_refresh_11 : decode cX6_refresh 11 = .ok (.invokevirtual 196, 3) := by decide +kernel
theorem dX6_refresh_14 : decode cX6_refresh 14 = .ok (.aload_n 0, 1) := by decide +kernel
theorem dX6_refresh_15 : decode cX6_refresh 15 = .ok (.iconst 0, 1) := by decide +kernel
theorem dX6_refresh_16 : decode cX6_refresh 16 = .ok (.putfield 46, 3) := by decide +kernel
theorem dX6_refresh_19 : decode cX6_refresh 19 = .ok (.return_, 1) := by decide +kernel
theorem pd_X6_refresh : (parseMethodDescriptor yX6_refresh.desc).map (fun d => d.parameters.length) = some 0 := by decide +kernel
def w_X6_refresh (zz : Nat → Nat) (a0 : Nat) (h : AH) (Q : AH → Prop) : Prop := okA h a0 6 ∧ jn (fun  (h_19 : AH) => Q h_19) (fun k_19 : AH → Prop => (((hfI h a0 7) = 0) → k_19  h) ∧ ((¬ ((hfI h a0 7) = 0)) → okA h a0 6 ∧ ∃ b8 : Nat, hfR h a0 1 = some b8 ∧ okA h b8 1 ∧ w_X1_work zz b8 h (fun  (h11 : AH) => okP h11 a0 6 ∧ ((0 : Int) = 0 ∨ (0 : Int) = 1) ∧ ∀ h16 : AH, h16 = sfI h11 a0 7 (0 : Int) → k_19  h16)))
set_option maxRecDepth 100000 in
set_option maxHeartbeats 4000000 in
theorem met_X6_refresh (G : GG) (l : Launch) : ∀ (As : List Value) (a0 : Nat) (h : AH) (Q : AH → Prop), As.map ab = List.map some ([vR a0] : List AV) → w_X6_refresh G.2.2 a0 h Q → Met l yX6_refresh (.code yX6_refresh cX6_refresh 1 none :: xTb) ({ frames := 5, cells := 0, slots := 0, locals := 116 } : Room) (PcA G As h) (QG G (oV Q)) 0 0 (frA G) := by
  intro As a0 h Q hA hw
  refine met_of hA (by decide) (Nat.le_of_ble_eq_true rfl) (fun p e s m args below meth c C hml hr hnm => ?_)
  unfold w_X6_refresh at hw
  refine aw_aload_n (pc := 0) C dX6_refresh_0 rfl rfl ?_
  obtain ⟨hp9, hw⟩ := hw
  refine aw_getZ (pc := 1) C (ci := 6) (k := 7) ci6 (by decide) tw230 dX6_refresh_1 rfl hp9 ?_
  obtain ⟨k_19, hk_19, hw⟩ := jn_out hw
  have J_19 : ∀  (h_19 : AH), k_19  h_19 → AW G p l e ({ frames := 5, cells := 0, slots := 0, locals := 116 } : Room) s m args below meth c 0 0 (MQ below (QG G (oV Q)) args s 0 0 (frA G)) 19 (eOf []) [] h_19 := by
    intro  h_19 hw
    rw [hk_19] at hw
    exact aw_vret (pc := 19) C hr dX6_refresh_19 ⟨Nat.le_of_ble_eq_true rfl, Nat.le_of_ble_eq_true rfl⟩ ⟨rfl, hw⟩
  refine aw_if_eq (pc := 4) (tgt := 19) C dX6_refresh_4 (by decide) (fun hc9 => ?_) (fun hc9 => ?_)
  · have hw := hw.1 hc9
    refine aw_sub [] trivial ?_
    exact J_19  _ hw
  · have hw := hw.2 hc9
    refine aw_aload_n (pc := 7) C dX6_refresh_7 rfl rfl ?_
    obtain ⟨hp9, b8, hb9, hw⟩ := hw
    refine aw_getR (pc := 8) C (ci := 6) (k := 1) ci6 (by decide) tw224 dX6_refresh_8 rfl hp9 hb9 ?_
    obtain ⟨hp9, hw⟩ := hw
    refine aw_callV (pc := 11) (as := []) C ci1 (fun As hA => met_X1_work G l As b8 _ _ hA hw) tw289 tw290 tw291 tw6 tw292 ⟨rfl, rfl⟩ ⟨rfl, by decide, by decide, pd_X1_work⟩ ⟨Nat.le_of_ble_eq_true rfl, Nat.le_of_ble_eq_true rfl⟩ ⟨Nat.zero_le _, Nat.zero_le _⟩ (Nat.le_of_ble_eq_true rfl) dX6_refresh_11 rfl hp9 (fun v9 h11 hq9 => ?_)
    obtain ⟨rfl, hw⟩ := hq9
    refine aw_aload_n (pc := 14) C dX6_refresh_14 rfl rfl ?_
    refine aw_iconst (pc := 15) C dX6_refresh_15 (i := (0 : Int)) (by decide) ?_
    obtain ⟨hp9, hz9, hw⟩ := hw
    refine aw_putZ (pc := 16) C (ci := 6) (k := 7) ci6 (by decide) tw230 (Or.inl rfl) dX6_refresh_16 rfl hp9 hz9 (aw_nmH (fun h16 e9 => ?_))
    have hw := hw h16 e9
    refine aw_sub [] trivial ?_
    exact J_19  _ hw
theorem dX6_swap_0 : decode cX6_swap 0 = .ok (.aload_n 0, 1) := by decide +kernel
theorem dX6_swap_1 : decode cX6_swap 1 = .ok (.invokevirtual 50, 3) := by decide +kernel
theorem dX6_swap_4 : decode cX6_swap 4 = .ok (.aload_n 0, 1) := by decide +kernel
theorem dX6_swap_5 : decode cX6_swap 5 = .ok (.getfield 12, 3) := by decide +kernel
theorem dX6_swap_8 : decode cX6_swap 8 = .ok (.invokevirtual 132, 3) := by decide +kernel
theorem dX6_swap_11 : decode cX6_swap 11 = .ok (.aload_n 0, 1) := by decide +kernel
theorem dX6_swap_12 : decode cX6_swap 12 = .ok (.invokevirtual 135, 3) := by decide +kernel
theorem dX6_swap_15 : decode cX6_swap 15 = .ok (.aload_n 0, 1) := by decide +kernel
theorem dX6_swap_16 : decode cX6_swap 16 = .ok (.getfield 21, 3) := by decide +kernel
theorem dX6_swap_19 : decode cX6_swap 19 = .ok (.invokevirtual 138, 3) := by decide +kernel
theorem dX6_swap_22 : decode cX6_swap 22 = .ok (.ireturn, 1) := by decide +kernel
theorem pd_X6_swap : (parseMethodDescriptor yX6_swap.desc).map (fun d => d.parameters.length) = some 0 := by decide +kernel
def w_X6_swap (zz : Nat → Nat) (a0 : Nat) (h : AH) (Q : Int → AH → Prop) : Prop := okA h a0 6 ∧ w_X6_save zz a0 h (fun  (h1 : AH) => okA h1 a0 6 ∧ ∃ b5 : Nat, hfR h1 a0 0 = some b5 ∧ okA h1 b5 4 ∧ w_X4_exchangeTexts zz b5 h1 (fun  (h8 : AH) => okA h8 a0 6 ∧ w_X6_refresh zz a0 h8 (fun  (h12 : AH) => okA h12 a0 6 ∧ ∃ b16 : Nat, hfR h12 a0 1 = some b16 ∧ okA h12 b16 1 ∧ w_X1_frames zz b16 h12 (fun (r19 : Int) (h19 : AH) => Q r19 h19))))
set_option maxRecDepth 100000 in
set_option maxHeartbeats 4000000 in
theorem met_X6_swap (G : GG) (l : Launch) : ∀ (As : List Value) (a0 : Nat) (h : AH) (Q : Int → AH → Prop), As.map ab = List.map some ([vR a0] : List AV) → w_X6_swap G.2.2 a0 h Q → Met l yX6_swap (.code yX6_swap cX6_swap 1 (some .int) :: xTb) ({ frames := 6, cells := 0, slots := 0, locals := 136 } : Room) (PcA G As h) (QG G (oI Q)) 0 0 (frA G) := by
  intro As a0 h Q hA hw
  refine met_of hA (by decide) (Nat.le_of_ble_eq_true rfl) (fun p e s m args below meth c C hml hr hnm => ?_)
  unfold w_X6_swap at hw
  refine aw_aload_n (pc := 0) C dX6_swap_0 rfl rfl ?_
  obtain ⟨hp9, hw⟩ := hw
  refine aw_callV (pc := 1) (as := []) C ci6 (fun As hA => met_X6_save G l As a0 _ _ hA hw) tw252 tw254 (tbp 0 (n := 8) (by decide +kernel)) tw1 tw255 ⟨rfl, rfl⟩ ⟨rfl, by decide, by decide, pd_X6_save⟩ ⟨Nat.le_of_ble_eq_true rfl, Nat.le_of_ble_eq_true rfl⟩ ⟨Nat.zero_le _, Nat.zero_le _⟩ (Nat.le_of_ble_eq_true rfl) dX6_swap_1 rfl hp9 (fun v9 h1 hq9 => ?_)
  obtain ⟨rfl, hw⟩ := hq9
  refine aw_aload_n (pc := 4) C dX6_swap_4 rfl rfl ?_
  obtain ⟨hp9, b5, hb9, hw⟩ := hw
  refine aw_getR (pc := 5) C (ci := 6) (k := 0) ci6 (by decide) tw223 dX6_swap_5 rfl hp9 hb9 ?_
  obtain ⟨hp9, hw⟩ := hw
  refine aw_callV (pc := 8) (as := []) C ci4 (fun As hA => met_X4_exchangeTexts G l As b5 _ _ hA hw) tw281 tw282 tw283 tw2 tw284 ⟨rfl, rfl⟩ ⟨rfl, by decide, by decide, pd_X4_exchangeTexts⟩ ⟨Nat.le_of_ble_eq_true rfl, Nat.le_of_ble_eq_true rfl⟩ ⟨Nat.zero_le _, Nat.zero_le _⟩ (Nat.le_of_ble_eq_true rfl) dX6_swap_8 rfl hp9 (fun v9 h8 hq9 => ?_)
  obtain ⟨rfl, hw⟩ := hq9
  refine aw_aload_n (pc := 11) C dX6_swap_11 rfl rfl ?_
  obtain ⟨hp9, hw⟩ := hw
  refine aw_callV (pc := 12) (as := []) C ci6 (fun As hA => met_X6_refresh G l As a0 _ _ hA hw) tw285 tw287 (tbp 1 (n := 8) (by decide +kernel)) tw1 tw288 ⟨rfl, rfl⟩ ⟨rfl, by decide, by decide, pd_X6_refresh⟩ ⟨Nat.le_of_ble_eq_true rfl, Nat.le_of_ble_eq_true rfl⟩ ⟨Nat.zero_le _, Nat.zero_le _⟩ (Nat.le_of_ble_eq_true rfl) dX6_swap_12 rfl hp9 (fun v9 h12 hq9 => ?_)
  obtain ⟨rfl, hw⟩ := hq9
  refine aw_aload_n (pc := 15) C dX6_swap_15 rfl rfl ?_
  obtain ⟨hp9, b16, hb9, hw⟩ := hw
  refine aw_getR (pc := 16) C (ci := 6) (k := 1) ci6 (by decide) tw224 dX6_swap_16 rfl hp9 hb9 ?_
  obtain ⟨hp9, hw⟩ := hw
  refine aw_callV (pc := 19) (as := []) C ci1 (fun As hA => met_X1_frames G l As b16 _ _ hA hw) tw382 tw383 tw384 tw6 tw385 ⟨rfl, rfl⟩ ⟨rfl, by decide, by decide, pd_X1_frames⟩ ⟨Nat.le_of_ble_eq_true rfl, Nat.le_of_ble_eq_true rfl⟩ ⟨Nat.zero_le _, Nat.zero_le _⟩ (Nat.le_of_ble_eq_true rfl) dX6_swap_19 rfl hp9 (fun v9 h19 hq9 => ?_)
  obtain ⟨r19, rfl, hw⟩ := hq9
  exact aw_iret (pc := 22) C hr dX6_swap_22 ⟨Nat.le_of_ble_eq_true rfl, Nat.le_of_ble_eq_true rfl⟩ ⟨_, rfl, hw⟩
theorem dX6_clearBuffer_0 : decode cX6_clearBuffer 0 = .ok (.aload_n 0, 1) := by decide +kernel
theorem dX6_clearBuffer_1 : decode cX6_clearBuffer 1 = .ok (.getfield 38, 3) := by decide +kernel
theorem dX6_clearBuffer_4 : decode cX6_clearBuffer 4 = .ok (.getfield 98, 3) := by decide +kernel
theorem dX6_clearBuffer_7 : decode cX6_clearBuffer 7 = .ok (.istore_n 1, 1) := by decide +kernel
theorem dX6_clearBuffer_8 : decode cX6_clearBuffer 8 = .ok (.aload_n 0, 1) := by decide +kernel
theorem dX6_clearBuffer_9 : decode cX6_clearBuffer 9 = .ok (.getfield 38, 3) := by decide +kernel
theorem dX6_clearBuffer_12 : decode cX6_clearBuffer 12 = .ok (.iconst 0, 1) := by decide +kernel
theorem dX6_clearBuffer_13 : decode cX6_clearBuffer 13 = .ok (.putfield 98, 3) := by decide +kernel
theorem dX6_clearBuffer_16 : decode cX6_clearBuffer 16 = .ok (.iload_n 1, 1) := by decide +kernel
theorem dX6_clearBuffer_17 : decode cX6_clearBuffer 17 = .ok (.ireturn, 1) := by decide +kernel
theorem pd_X6_clearBuffer : (parseMethodDescriptor yX6_clearBuffer.desc).map (fun d => d.parameters.length) = some 0 := by decide +kernel
def w_X6_clearBuffer (zz : Nat → Nat) (a0 : Nat) (h : AH) (Q : Int → AH → Prop) : Prop := okA h a0 6 ∧ ∃ b1 : Nat, hfR h a0 5 = some b1 ∧ okA h b1 0 ∧ ∀ x1_7 : Int, x1_7 = (hfI h b1 2) → okA h a0 6 ∧ ∃ b9 : Nat, hfR h a0 5 = some b9 ∧ okP h b9 0 ∧ ∀ h13 : AH, h13 = sfI h b9 2 (0 : Int) → Q x1_7 h13
set_option maxRecDepth 100000 in
set_option maxHeartbeats 4000000 in
theorem met_X6_clearBuffer (G : GG) (l : Launch) : ∀ (As : List Value) (a0 : Nat) (h : AH) (Q : Int → AH → Prop), As.map ab = List.map some ([vR a0] : List AV) → w_X6_clearBuffer G.2.2 a0 h Q → Met l yX6_clearBuffer (.code yX6_clearBuffer cX6_clearBuffer 2 (some .int) :: xTb) ({ frames := 0, cells := 0, slots := 0, locals := 0 } : Room) (PcA G As h) (QG G (oI Q)) 0 0 (frA G) := by
  intro As a0 h Q hA hw
  refine met_of hA (by decide) (Nat.le_of_ble_eq_true rfl) (fun p e s m args below meth c C hml hr hnm => ?_)
  unfold w_X6_clearBuffer at hw
  refine aw_aload_n (pc := 0) C dX6_clearBuffer_0 rfl rfl ?_
  obtain ⟨hp9, b1, hb9, hw⟩ := hw
  refine aw_getR (pc := 1) C (ci := 6) (k := 5) ci6 (by decide) tw228 dX6_clearBuffer_1 rfl hp9 hb9 ?_
  obtain ⟨hp9, hw⟩ := hw
  refine aw_getI (pc := 4) C (ci := 0) (k := 2) ci0 (by decide) tw215 dX6_clearBuffer_4 rfl hp9 ?_
  refine aw_nmI (fun x1_7 e9 => ?_)
  have hw := hw x1_7 e9
  refine aw_istore_n (pc := 7) C dX6_clearBuffer_7 rfl (by rw [hml]; decide) ?_
  refine aw_aload_n (pc := 8) C dX6_clearBuffer_8 rfl rfl ?_
  obtain ⟨hp9, b9, hb9, hw⟩ := hw
  refine aw_getR (pc := 9) C (ci := 6) (k := 5) ci6 (by decide) tw228 dX6_clearBuffer_9 rfl hp9 hb9 ?_
  refine aw_iconst (pc := 12) C dX6_clearBuffer_12 (i := (0 : Int)) (by decide) ?_
  obtain ⟨hp9, hw⟩ := hw
  refine aw_putI (pc := 13) C (ci := 0) (k := 2) ci0 (by decide) tw215 (Or.inl rfl) dX6_clearBuffer_13 rfl hp9 (aw_nmH (fun h13 e9 => ?_))
  have hw := hw h13 e9
  refine aw_iload_n (pc := 16) C dX6_clearBuffer_16 rfl rfl ?_
  exact aw_iret (pc := 17) C hr dX6_clearBuffer_17 ⟨Nat.le_of_ble_eq_true rfl, Nat.le_of_ble_eq_true rfl⟩ ⟨_, rfl, hw⟩
theorem dX6_firstError_0 : decode cX6_firstError 0 = .ok (.aload_n 0, 1) := by decide +kernel
theorem dX6_firstError_1 : decode cX6_firstError 1 = .ok (.getfield 38, 3) := by decide +kernel
theorem dX6_firstError_4 : decode cX6_firstError 4 = .ok (.invokevirtual 94, 3) := by decide +kernel
theorem dX6_firstError_7 : decode cX6_firstError 7 = .ok (.ireturn, 1) := by decide +kernel
theorem pd_X6_firstError : (parseMethodDescriptor yX6_firstError.desc).map (fun d => d.parameters.length) = some 0 := by decide +kernel
def w_X6_firstError (zz : Nat → Nat) (a0 : Nat) (h : AH) (Q : Int → AH → Prop) : Prop := okA h a0 6 ∧ ∃ b1 : Nat, hfR h a0 5 = some b1 ∧ okA h b1 0 ∧ w_X0_read zz b1 h (fun (r4 : Int) (h4 : AH) => Q r4 h4)
set_option maxRecDepth 100000 in
set_option maxHeartbeats 4000000 in
theorem met_X6_firstError (G : GG) (l : Launch) : ∀ (As : List Value) (a0 : Nat) (h : AH) (Q : Int → AH → Prop), As.map ab = List.map some ([vR a0] : List AV) → w_X6_firstError G.2.2 a0 h Q → Met l yX6_firstError (.code yX6_firstError cX6_firstError 1 (some .int) :: xTb) ({ frames := 2, cells := 0, slots := 0, locals := 48 } : Room) (PcA G As h) (QG G (oI Q)) 0 0 (frA G) := by
  intro As a0 h Q hA hw
  refine met_of hA (by decide) (Nat.le_of_ble_eq_true rfl) (fun p e s m args below meth c C hml hr hnm => ?_)
  unfold w_X6_firstError at hw
  refine aw_aload_n (pc := 0) C dX6_firstError_0 rfl rfl ?_
  obtain ⟨hp9, b1, hb9, hw⟩ := hw
  refine aw_getR (pc := 1) C (ci := 6) (k := 5) ci6 (by decide) tw228 dX6_firstError_1 rfl hp9 hb9 ?_
  obtain ⟨hp9, hw⟩ := hw
  refine aw_callV (pc := 4) (as := []) C ci0 (fun As hA => met_X0_read G l As b1 _ _ hA hw) tw394 tw395 tw396 tw9 tw397 ⟨rfl, rfl⟩ ⟨rfl, by decide, by decide, pd_X0_read⟩ ⟨Nat.le_of_ble_eq_true rfl, Nat.le_of_ble_eq_true rfl⟩ ⟨Nat.zero_le _, Nat.zero_le _⟩ (Nat.le_of_ble_eq_true rfl) dX6_firstError_4 rfl hp9 (fun v9 h4 hq9 => ?_)
  obtain ⟨r4, rfl, hw⟩ := hq9
  exact aw_iret (pc := 7) C hr dX6_firstError_7 ⟨Nat.le_of_ble_eq_true rfl, Nat.le_of_ble_eq_true rfl⟩ ⟨_, rfl, hw⟩
theorem dX6_best_0 : decode cX6_best 0 = .ok (.iconst (-1), 1) := by decide +kernel
theorem dX6_best_1 : decode cX6_best 1 = .ok (.istore_n 1, 1) := by decide +kernel
theorem dX6_best_2 : decode cX6_best 2 = .ok (.iconst 0, 1) := by decide +kernel
theorem dX6_best_3 : decode cX6_best 3 = .ok (.istore_n 2, 1) := by decide +kernel
theorem dX6_best_4 : decode cX6_best 4 = .ok (.iconst (-1), 1) := by decide +kernel
theorem dX6_best_5 : decode cX6_best 5 = .ok (.istore_n 3, 1) := by decide +kernel
theorem dX6_best_6 : decode cX6_best 6 = .ok (.aload_n 0, 1) := by decide +kernel
theorem dX6_best_7 : decode cX6_best 7 = .ok (.getfield 25, 3) := by decide +kernel
theorem dX6_best_10 : decode cX6_best 10 = .ok (.aload_n 0, 1) := by decide +kernel
theorem dX6_best_11 : decode cX6_best 11 = .ok (.getfield 12, 3) := by decide +kernel
theorem dX6_best_14 : decode cX6_best 14 = .ok (.invokevirtual 143, 3) := by decide +kernel
theorem dX6_best_17 : decode cX6_best 17 = .ok (.iconst 0, 1) := by decide +kernel
theorem dX6_best_18 : decode cX6_best 18 = .ok (.istore 4, 2) := by decide +kernel
theorem dX6_best_20 : decode cX6_best 20 = .ok (.iload 4, 2) := by decide +kernel
theorem dX6_best_22 : decode cX6_best 22 = .ok (.bipush 30, 2) := by decide +kernel
theorem dX6_best_24 : decode cX6_best 24 = .ok (.if_icmp .ge 101, 3) := by decide +kernel
theorem dX6_best_27 : decode cX6_best 27 = .ok (.iload_n 3, 1) := by decide +kernel
theorem dX6_best_28 : decode cX6_best 28 = .ok (.ifCond .eq 97, 3) := by decide +kernel
theorem dX6_best_31 : decode cX6_best 31 = .ok (.aload_n 0, 1) := by decide +kernel
theorem dX6_best_32 : decode cX6_best 32 = .ok (.getfield 25, 3) := by decide +kernel
theorem dX6_best_35 : decode cX6_best 35 = .ok (.getfield 85, 3) := by decide +kernel
theorem dX6_best_38 : decode cX6_best 38 = .ok (.iconst 4, 1) := by decide +kernel
theorem dX6_best_39 : decode cX6_best 39 = .ok (.iload 4, 2) := by decide +kernel
theorem dX6_best_41 : decode cX6_best 41 = .ok (.bipush 10, 2) := by decide +kernel
theorem dX6_best_43 : decode cX6_best 43 = .ok (.idiv, 1) := by decide +kernel
theorem dX6_best_44 : decode cX6_best 44 = .ok (.iastore, 1) := by decide +kernel
theorem dX6_best_45 : decode cX6_best 45 = .ok (.aload_n 0, 1) := by decide +kernel
theorem dX6_best_46 : decode cX6_best 46 = .ok (.getfield 25, 3) := by decide +kernel
theorem dX6_best_49 : decode cX6_best 49 = .ok (.getfield 85, 3) := by decide +kernel
theorem dX6_best_52 : decode cX6_best 52 = .ok (.iconst 5, 1) := by decide +kernel
theorem dX6_best_53 : decode cX6_best 53 = .ok (.iload 4, 2) := by decide +kernel
theorem dX6_best_55 : decode cX6_best 55 = .ok (.bipush 10, 2) := by decide +kernel
theorem dX6_best_57 : decode cX6_best 57 = .ok (.irem, 1) := by decide +kernel
theorem dX6_best_58 : decode cX6_best 58 = .ok (.iastore, 1) := by decide +kernel
theorem dX6_best_59 : decode cX6_best 59 = .ok (.aload_n 0, 1) := by decide +kernel
theorem dX6_best_60 : decode cX6_best 60 = .ok (.getfield 28, 3) := by decide +kernel
theorem dX6_best_63 : decode cX6_best 63 = .ok (.invokevirtual 196, 3) := by decide +kernel
theorem dX6_best_66 : decode cX6_best 66 = .ok (.aload_n 0, 1) := by decide +kernel
theorem dX6_best_67 : decode cX6_best 67 = .ok (.getfield 28, 3) := by decide +kernel
theorem dX6_best_70 : decode cX6_best 70 = .ok (.invokevirtual 138, 3) := by decide +kernel
theorem dX6_best_73 : decode cX6_best 73 = .ok (.istore 5, 2) := by decide +kernel
theorem dX6_best_75 : decode cX6_best 75 = .ok (.aload_n 0, 1) := by decide +kernel
theorem dX6_best_76 : decode cX6_best 76 = .ok (.getfield 28, 3) := by decide +kernel
theorem dX6_best_79 : decode cX6_best 79 = .ok (.getfield 199, 3) := by decide +kernel
theorem dX6_best_82 : decode cX6_best 82 = .ok (.getfield 203, 3) := by decide +kernel
theorem dX6_best_85 : decode cX6_best 85 = .ok (.istore 6, 2) := by decide +kernel
theorem dX6_best_87 : decode cX6_best 87 = .ok (.iload_n 1, 1) := by decide +kernel
theorem dX6_best_88 : decode cX6_best 88 = .ok (.iconst (-1), 1) := by decide +kernel
theorem dX6_best_89 : decode cX6_best 89 = .ok (.if_icmp .eq 21, 3) := by decide +kernel
theorem dX6_best_92 : decode cX6_best 92 = .ok (.iload 5, 2) := by decide +kernel
theorem dX6_best_94 : decode cX6_best 94 = .ok (.iload_n 2, 1) := by decide +kernel
theorem dX6_best_95 : decode cX6_best 95 = .ok (.if_icmp .lt 15, 3) := by decide +kernel
theorem dX6_best_98 : decode cX6_best 98 = .ok (.iload 5, 2) := by decide +kernel
theorem dX6_best_100 : decode cX6_best 100 = .ok (.iload_n 2, 1) := by decide +kernel
theorem dX6_best_101 : decode cX6_best 101 = .ok (.if_icmp .ne 18, 3) := by decide +kernel
theorem dX6_best_104 : decode cX6_best 104 = .ok (.iload 6, 2) := by decide +kernel
theorem dX6_best_106 : decode cX6_best 106 = .ok (.iload_n 3, 1) := by decide +kernel
theorem dX6_best_107 : decode cX6_best 107 = .ok (.if_icmp .ge 12, 3) := by decide +kernel
theorem dX6_best_110 : decode cX6_best 110 = .ok (.iload 4, 2) := by decide +kernel
theorem dX6_best_112 : decode cX6_best 112 = .ok (.istore_n 1, 1) := by decide +kernel
theorem dX6_best_113 : decode cX6_best 113 = .ok (.iload 5, 2) := by decide +kernel
theorem dX6_best_115 : decode cX6_best 115 = .ok (.istore_n 2, 1) := by decide +kernel
theorem dX6_best_116 : decode cX6_best 116 = .ok (.iload 6, 2) := by decide +kernel
theorem dX6_best_118 : decode cX6_best 118 = .ok (.istore_n 3, 1) := by decide +kernel
theorem dX6_best_119 : decode cX6_best 119 = .ok (.iinc 4 1, 3) := by decide +kernel
theorem dX6_best_122 : decode cX6_best 122 = .ok (.goto (-102), 3) := by decide +kernel
theorem dX6_best_125 : decode cX6_best 125 = .ok (.iload_n 1, 1) := by decide +kernel
theorem dX6_best_126 : decode cX6_best 126 = .ok (.ireturn, 1) := by decide +kernel
theorem pd_X6_best : (parseMethodDescriptor yX6_best.desc).map (fun d => d.parameters.length) = some 0 := by decide +kernel
def w_X6_best (zz : Nat → Nat) (a0 : Nat) (h : AH) (Q : Int → AH → Prop) : Prop := okA h a0 6 ∧ ∃ b7 : Nat, hfR h a0 2 = some b7 ∧ okA h a0 6 ∧ ∃ b11 : Nat, hfR h a0 0 = some b11 ∧ okA h b7 4 ∧ w_X4_copyFrom zz b7 b11 h (fun  (h14 : AH) => ∃ I_20 : Nat → Int → Int → Int → Int → AH → Prop, (∃ n, I_20 n (-1 : Int) (0 : Int) (-1 : Int) (0 : Int) h14) ∧ ∀ (n_20 : Nat) (x1_20 : Int) (x2_20 : Int) (x3_20 : Int) (x4_20 : Int) (h_20 : AH), I_20 n_20 x1_20 x2_20 x3_20 x4_20 h_20 → (jn (fun  (h_125 : AH) => Q x1_20 h_125) (fun k_125 : AH → Prop => (((30 : Int) ≤ x4_20) → k_125  h_20) ∧ ((¬ ((30 : Int) ≤ x4_20)) → ((x3_20 = 0) → k_125  h_20) ∧ ((¬ (x3_20 = 0)) → okA h_20 a0 6 ∧ ∃ b32 : Nat, hfR h_20 a0 2 = some b32 ∧ okA h_20 b32 4 ∧ ∃ b35 : Nat, hfR h_20 b32 0 = some b35 ∧ (0 ≤ x4_20 ∧ 0 < (10 : Int)) ∧ okW h_20 b35 (4 : Int) ∧ ∀ h44 : AH, h44 = saI h_20 b35 (u1 (haI h_20 b35) (4 : Int) (x4_20 / (10 : Int))) → okA h44 a0 6 ∧ ∃ b46 : Nat, hfR h44 a0 2 = some b46 ∧ okA h44 b46 4 ∧ ∃ b49 : Nat, hfR h44 b46 0 = some b49 ∧ (0 ≤ x4_20 ∧ 0 < (10 : Int)) ∧ okW h44 b49 (5 : Int) ∧ ∀ h58 : AH, h58 = saI h44 b49 (u1 (haI h44 b49) (5 : Int) (x4_20 % (10 : Int))) → okA h58 a0 6 ∧ ∃ b60 : Nat, hfR h58 a0 3 = some b60 ∧ okA h58 b60 1 ∧ w_X1_work zz b60 h58 (fun  (h63 : AH) => okA h63 a0 6 ∧ ∃ b67 : Nat, hfR h63 a0 3 = some b67 ∧ okA h63 b67 1 ∧ w_X1_frames zz b67 h63 (fun (r70 : Int) (h70 : AH) => okA h70 a0 6 ∧ ∃ b76 : Nat, hfR h70 a0 3 = some b76 ∧ okA h70 b76 1 ∧ ∃ b79 : Nat, hfR h70 b76 1 = some b79 ∧ okA h70 b79 2 ∧ ∀ x6_85 : Int, x6_85 = (hfI h70 b79 4) → jn (fun (x1_119 : Int) (x2_119 : Int) (x3_119 : Int) (h_119 : AH) => inR (x4_20 + 1) ∧ ∀ x4_119 : Int, x4_119 = (x4_20 + 1) → ∃ m, m < n_20 ∧ I_20 m x1_119 x2_119 x3_119 x4_119 h_119) (fun k_119 : Int → Int → Int → AH → Prop => jn (fun  (h_110 : AH) => k_119 x4_20 r70 x6_85 h_110) (fun k_110 : AH → Prop => ((x1_20 = (-1 : Int)) → k_110  h70) ∧ ((¬ (x1_20 = (-1 : Int))) → ((r70 < x2_20) → k_110  h70) ∧ ((¬ (r70 < x2_20)) → ((¬ r70 = x2_20) → k_119 x1_20 x2_20 x3_20 h70) ∧ ((r70 = x2_20) → ((x3_20 ≤ x6_85) → k_119 x1_20 x2_20 x3_20 h70) ∧ ((¬ (x3_20 ≤ x6_85)) → k_110  h70)))))))))))))
set_option maxRecDepth 100000 in
set_option maxHeartbeats 4000000 in
theorem met_X6_best (G : GG) (l : Launch) : ∀ (As : List Value) (a0 : Nat) (h : AH) (Q : Int → AH → Prop), As.map ab = List.map some ([vR a0] : List AV) → w_X6_best G.2.2 a0 h Q → Met l yX6_best (.code yX6_best cX6_best 7 (some .int) :: xTb) ({ frames := 5, cells := 0, slots := 0, locals := 116 } : Room) (PcA G As h) (QG G (oI Q)) 0 0 (frA G) := by
  intro As a0 h Q hA hw
  refine met_of hA (by decide) (Nat.le_of_ble_eq_true rfl) (fun p e s m args below meth c C hml hr hnm => ?_)
  unfold w_X6_best at hw
  refine aw_iconst (pc := 0) C dX6_best_0 (i := (-1 : Int)) (by decide) ?_
  refine aw_istore_n (pc := 1) C dX6_best_1 rfl (by rw [hml]; decide) ?_
  refine aw_iconst (pc := 2) C dX6_best_2 (i := (0 : Int)) (by decide) ?_
  refine aw_istore_n (pc := 3) C dX6_best_3 rfl (by rw [hml]; decide) ?_
  refine aw_iconst (pc := 4) C dX6_best_4 (i := (-1 : Int)) (by decide) ?_
  refine aw_istore_n (pc := 5) C dX6_best_5 rfl (by rw [hml]; decide) ?_
  refine aw_aload_n (pc := 6) C dX6_best_6 rfl rfl ?_
  obtain ⟨hp9, b7, hb9, hw⟩ := hw
  refine aw_getR (pc := 7) C (ci := 6) (k := 2) ci6 (by decide) tw225 dX6_best_7 rfl hp9 hb9 ?_
  refine aw_aload_n (pc := 10) C dX6_best_10 rfl rfl ?_
  obtain ⟨hp9, b11, hb9, hw⟩ := hw
  refine aw_getR (pc := 11) C (ci := 6) (k := 0) ci6 (by decide) tw223 dX6_best_11 rfl hp9 hb9 ?_
  obtain ⟨hp9, hw⟩ := hw
  refine aw_callV (pc := 14) (as := [vR b11]) C ci4 (fun As hA => met_X4_copyFrom G l As b7 b11 _ _ hA hw) tw256 tw257 tw258 tw2 tw259 ⟨rfl, rfl⟩ ⟨rfl, by decide, by decide, pd_X4_copyFrom⟩ ⟨Nat.le_of_ble_eq_true rfl, Nat.le_of_ble_eq_true rfl⟩ ⟨Nat.zero_le _, Nat.zero_le _⟩ (Nat.le_of_ble_eq_true rfl) dX6_best_14 rfl hp9 (fun v9 h14 hq9 => ?_)
  obtain ⟨rfl, hw⟩ := hq9
  refine aw_iconst (pc := 17) C dX6_best_17 (i := (0 : Int)) (by decide) ?_
  refine aw_istore (pc := 18) C dX6_best_18 (by rw [hml]; decide) ?_
  obtain ⟨I_20, ⟨n9, hi9⟩, hst9⟩ := hw
  have L_20 : ∀ (n_20 : Nat) (x1_20 : Int) (x2_20 : Int) (x3_20 : Int) (x4_20 : Int) (h_20 : AH), I_20 n_20 x1_20 x2_20 x3_20 x4_20 h_20 → AW G p l e ({ frames := 5, cells := 0, slots := 0, locals := 116 } : Room) s m args below meth c 0 0 (MQ below (QG G (oI Q)) args s 0 0 (frA G)) 20 (eOf [(0, vR a0), (1, vI x1_20), (2, vI x2_20), (3, vI x3_20), (4, vI x4_20)]) [] h_20 := by
    intro n_20
    induction n_20 using Nat.strongRecOn with
    | _ n_20 ih_20 =>
    intro x1_20 x2_20 x3_20 x4_20 h_20 hi9
    have hw := hst9 n_20 x1_20 x2_20 x3_20 x4_20 h_20 hi9
    refine aw_iload (pc := 20) C dX6_best_20 rfl ?_
    refine aw_bipush (pc := 22) C dX6_best_22 (i := (30 : Int)) (by decide) ?_
    obtain ⟨k_125, hk_125, hw⟩ := jn_out hw
    have J_125 : ∀  (h_125 : AH), k_125  h_125 → AW G p l e ({ frames := 5, cells := 0, slots := 0, locals := 116 } : Room) s m args below meth c 0 0 (MQ below (QG G (oI Q)) args s 0 0 (frA G)) 125 (eOf [(1, vI x1_20)]) [] h_125 := by
      intro  h_125 hw
      rw [hk_125] at hw
      refine aw_iload_n (pc := 125) C dX6_best_125 rfl rfl ?_
      exact aw_iret (pc := 126) C hr dX6_best_126 ⟨Nat.le_of_ble_eq_true rfl, Nat.le_of_ble_eq_true rfl⟩ ⟨_, rfl, hw⟩
    refine aw_icmp_ge (pc := 24) (tgt := 125) C dX6_best_24 (by decide) (fun hc9 => ?_) (fun hc9 => ?_)
    · have hw := hw.1 hc9
      refine aw_sub [(1, vI x1_20)] ⟨rfl, trivial⟩ ?_
      exact J_125  _ hw
    · have hw := hw.2 hc9
      refine aw_iload_n (pc := 27) C dX6_best_27 rfl rfl ?_
      refine aw_if_eq (pc := 28) (tgt := 125) C dX6_best_28 (by decide) (fun hc9 => ?_) (fun hc9 => ?_)
      · have hw := hw.1 hc9
        refine aw_sub [(1, vI x1_20)] ⟨rfl, trivial⟩ ?_
        exact J_125  _ hw
      · have hw := hw.2 hc9
        refine aw_aload_n (pc := 31) C dX6_best_31 rfl rfl ?_
        obtain ⟨hp9, b32, hb9, hw⟩ := hw
        refine aw_getR (pc := 32) C (ci := 6) (k := 2) ci6 (by decide) tw225 dX6_best_32 rfl hp9 hb9 ?_
        obtain ⟨hp9, b35, hb9, hw⟩ := hw
        refine aw_getR (pc := 35) C (ci := 4) (k := 0) ci4 (by decide) tw69 dX6_best_35 rfl hp9 hb9 ?_
        refine aw_iconst (pc := 38) C dX6_best_38 (i := (4 : Int)) (by decide) ?_
        refine aw_iload (pc := 39) C dX6_best_39 rfl ?_
        refine aw_bipush (pc := 41) C dX6_best_41 (i := (10 : Int)) (by decide) ?_
        obtain ⟨hp9, hw⟩ := hw
        refine aw_idiv (pc := 43) C dX6_best_43 hp9 ?_
        obtain ⟨⟨k9, hp9⟩, hw⟩ := hw
        refine aw_iast (pc := 44) C dX6_best_44 hp9 (aw_nmH (fun h44 e9 => ?_))
        have hw := hw h44 e9
        refine aw_aload_n (pc := 45) C dX6_best_45 rfl rfl ?_
        obtain ⟨hp9, b46, hb9, hw⟩ := hw
        refine aw_getR (pc := 46) C (ci := 6) (k := 2) ci6 (by decide) tw225 dX6_best_46 rfl hp9 hb9 ?_
        obtain ⟨hp9, b49, hb9, hw⟩ := hw
        refine aw_getR (pc := 49) C (ci := 4) (k := 0) ci4 (by decide) tw69 dX6_best_49 rfl hp9 hb9 ?_
        refine aw_iconst (pc := 52) C dX6_best_52 (i := (5 : Int)) (by decide) ?_
        refine aw_iload (pc := 53) C dX6_best_53 rfl ?_
        refine aw_bipush (pc := 55) C dX6_best_55 (i := (10 : Int)) (by decide) ?_
        obtain ⟨hp9, hw⟩ := hw
        refine aw_irem (pc := 57) C dX6_best_57 hp9 ?_
        obtain ⟨⟨k9, hp9⟩, hw⟩ := hw
        refine aw_iast (pc := 58) C dX6_best_58 hp9 (aw_nmH (fun h58 e9 => ?_))
        have hw := hw h58 e9
        refine aw_aload_n (pc := 59) C dX6_best_59 rfl rfl ?_
        obtain ⟨hp9, b60, hb9, hw⟩ := hw
        refine aw_getR (pc := 60) C (ci := 6) (k := 3) ci6 (by decide) tw226 dX6_best_60 rfl hp9 hb9 ?_
        obtain ⟨hp9, hw⟩ := hw
        refine aw_callV (pc := 63) (as := []) C ci1 (fun As hA => met_X1_work G l As b60 _ _ hA hw) tw289 tw290 tw291 tw6 tw292 ⟨rfl, rfl⟩ ⟨rfl, by decide, by decide, pd_X1_work⟩ ⟨Nat.le_of_ble_eq_true rfl, Nat.le_of_ble_eq_true rfl⟩ ⟨Nat.zero_le _, Nat.zero_le _⟩ (Nat.le_of_ble_eq_true rfl) dX6_best_63 rfl hp9 (fun v9 h63 hq9 => ?_)
        obtain ⟨rfl, hw⟩ := hq9
        refine aw_aload_n (pc := 66) C dX6_best_66 rfl rfl ?_
        obtain ⟨hp9, b67, hb9, hw⟩ := hw
        refine aw_getR (pc := 67) C (ci := 6) (k := 3) ci6 (by decide) tw226 dX6_best_67 rfl hp9 hb9 ?_
        obtain ⟨hp9, hw⟩ := hw
        refine aw_callV (pc := 70) (as := []) C ci1 (fun As hA => met_X1_frames G l As b67 _ _ hA hw) tw382 tw383 tw384 tw6 tw385 ⟨rfl, rfl⟩ ⟨rfl, by decide, by decide, pd_X1_frames⟩ ⟨Nat.le_of_ble_eq_true rfl, Nat.le_of_ble_eq_true rfl⟩ ⟨Nat.zero_le _, Nat.zero_le _⟩ (Nat.le_of_ble_eq_true rfl) dX6_best_70 rfl hp9 (fun v9 h70 hq9 => ?_)
        obtain ⟨r70, rfl, hw⟩ := hq9
        refine aw_istore (pc := 73) C dX6_best_73 (by rw [hml]; decide) ?_
        refine aw_aload_n (pc := 75) C dX6_best_75 rfl rfl ?_
        obtain ⟨hp9, b76, hb9, hw⟩ := hw
        refine aw_getR (pc := 76) C (ci := 6) (k := 3) ci6 (by decide) tw226 dX6_best_76 rfl hp9 hb9 ?_
        obtain ⟨hp9, b79, hb9, hw⟩ := hw
        refine aw_getR (pc := 79) C (ci := 1) (k := 1) ci1 (by decide) tw176 dX6_best_79 rfl hp9 hb9 ?_
        obtain ⟨hp9, hw⟩ := hw
        refine aw_getI (pc := 82) C (ci := 2) (k := 4) ci2 (by decide) tw137 dX6_best_82 rfl hp9 ?_
        refine aw_nmI (fun x6_85 e9 => ?_)
        have hw := hw x6_85 e9
        refine aw_istore (pc := 85) C dX6_best_85 (by rw [hml]; decide) ?_
        refine aw_iload_n (pc := 87) C dX6_best_87 rfl rfl ?_
        refine aw_iconst (pc := 88) C dX6_best_88 (i := (-1 : Int)) (by decide) ?_
        obtain ⟨k_119, hk_119, hw⟩ := jn_out hw
        have J_119 : ∀ (x1_119 : Int) (x2_119 : Int) (x3_119 : Int) (h_119 : AH), k_119 x1_119 x2_119 x3_119 h_119 → AW G p l e ({ frames := 5, cells := 0, slots := 0, locals := 116 } : Room) s m args below meth c 0 0 (MQ below (QG G (oI Q)) args s 0 0 (frA G)) 119 (eOf [(0, vR a0), (1, vI x1_119), (2, vI x2_119), (3, vI x3_119), (4, vI x4_20)]) [] h_119 := by
          intro x1_119 x2_119 x3_119 h_119 hw
          rw [hk_119] at hw
          obtain ⟨hp9, hw⟩ := hw
          refine aw_iincN (pc := 119) C dX6_best_119 (k := 1) (by decide) rfl (by rw [hml]; decide) hp9 (fun x4_119 e9 => ?_)
          have hw := hw x4_119 e9
          refine aw_goto (pc := 122) (tgt := 20) C dX6_best_122 (by decide) ?_
          obtain ⟨m9, hm9, hw⟩ := hw
          refine aw_sub [(0, vR a0), (1, vI x1_119), (2, vI x2_119), (3, vI x3_119), (4, vI x4_119)] ⟨rfl, rfl, rfl, rfl, rfl, trivial⟩ ?_
          exact ih_20 m9 hm9 _ _ _ _ _ hw
        obtain ⟨k_110, hk_110, hw⟩ := jn_out hw
        have J_110 : ∀  (h_110 : AH), k_110  h_110 → AW G p l e ({ frames := 5, cells := 0, slots := 0, locals := 116 } : Room) s m args below meth c 0 0 (MQ below (QG G (oI Q)) args s 0 0 (frA G)) 110 (eOf [(0, vR a0), (4, vI x4_20), (5, vI r70), (6, vI x6_85)]) [] h_110 := by
          intro  h_110 hw
          rw [hk_110] at hw
          refine aw_iload (pc := 110) C dX6_best_110 rfl ?_
          refine aw_istore_n (pc := 112) C dX6_best_112 rfl (by rw [hml]; decide) ?_
          refine aw_iload (pc := 113) C dX6_best_113 rfl ?_
          refine aw_istore_n (pc := 115) C dX6_best_115 rfl (by rw [hml]; decide) ?_
          refine aw_iload (pc := 116) C dX6_best_116 rfl ?_
          refine aw_istore_n (pc := 118) C dX6_best_118 rfl (by rw [hml]; decide) ?_
          refine aw_sub [(0, vR a0), (1, vI x4_20), (2, vI r70), (3, vI x6_85), (4, vI x4_20)] ⟨rfl, rfl, rfl, rfl, rfl, trivial⟩ ?_
          exact J_119 _ _ _ _ hw
        refine aw_icmp_eq (pc := 89) (tgt := 110) C dX6_best_89 (by decide) (fun hc9 => ?_) (fun hc9 => ?_)
        · have hw := hw.1 hc9
          refine aw_sub [(0, vR a0), (4, vI x4_20), (5, vI r70), (6, vI x6_85)] ⟨rfl, rfl, rfl, rfl, trivial⟩ ?_
          exact J_110  _ hw
        · have hw := hw.2 hc9
          refine aw_iload (pc := 92) C dX6_best_92 rfl ?_
          refine aw_iload_n (pc := 94) C dX6_best_94 rfl rfl ?_
          refine aw_icmp_lt (pc := 95) (tgt := 110) C dX6_best_95 (by decide) (fun hc9 => ?_) (fun hc9 => ?_)
          · have hw := hw.1 hc9
            refine aw_sub [(0, vR a0), (4, vI x4_20), (5, vI r70), (6, vI x6_85)] ⟨rfl, rfl, rfl, rfl, trivial⟩ ?_
            exact J_110  _ hw
          · have hw := hw.2 hc9
            refine aw_iload (pc := 98) C dX6_best_98 rfl ?_
            refine aw_iload_n (pc := 100) C dX6_best_100 rfl rfl ?_
            refine aw_icmp_ne (pc := 101) (tgt := 119) C dX6_best_101 (by decide) (fun hc9 => ?_) (fun hc9 => ?_)
            · have hw := hw.1 hc9
              refine aw_sub [(0, vR a0), (1, vI x1_20), (2, vI x2_20), (3, vI x3_20), (4, vI x4_20)] ⟨rfl, rfl, rfl, rfl, rfl, trivial⟩ ?_
              exact J_119 _ _ _ _ hw
            · have hw := hw.2 hc9
              refine aw_iload (pc := 104) C dX6_best_104 rfl ?_
              refine aw_iload_n (pc := 106) C dX6_best_106 rfl rfl ?_
              refine aw_icmp_ge (pc := 107) (tgt := 119) C dX6_best_107 (by decide) (fun hc9 => ?_) (fun hc9 => ?_)
              · have hw := hw.1 hc9
                refine aw_sub [(0, vR a0), (1, vI x1_20), (2, vI x2_20), (3, vI x3_20), (4, vI x4_20)] ⟨rfl, rfl, rfl, rfl, rfl, trivial⟩ ?_
                exact J_119 _ _ _ _ hw
              · have hw := hw.2 hc9
                refine aw_sub [(0, vR a0), (4, vI x4_20), (5, vI r70), (6, vI x6_85)] ⟨rfl, rfl, rfl, rfl, trivial⟩ ?_
                exact J_110  _ hw
  refine aw_sub [(0, vR a0), (1, vI (-1 : Int)), (2, vI (0 : Int)), (3, vI (-1 : Int)), (4, vI (0 : Int))] ⟨rfl, rfl, rfl, rfl, rfl, trivial⟩ ?_
  exact L_20 n9 _ _ _ _ _ hi9
theorem dX6_likeness_0 : decode cX6_likeness 0 = .ok (.aload_n 0, 1) := by decide +kernel
theorem dX6_likeness_1 : decode cX6_likeness 1 = .ok (.invokevirtual 135, 3) := by decide +kernel
theorem dX6_likeness_4 : decode cX6_likeness 4 = .ok (.aload_n 0, 1) := by decide +kernel
theorem dX6_likeness_5 : decode cX6_likeness 5 = .ok (.getfield 12, 3) := by decide +kernel
theorem dX6_likeness_8 : decode cX6_likeness 8 = .ok (.iconst 0, 1) := by decide +kernel
theorem dX6_likeness_9 : decode cX6_likeness 9 = .ok (.invokevirtual 53, 3) := by decide +kernel
theorem dX6_likeness_12 : decode cX6_likeness 12 = .ok (.getfield 57, 3) := by decide +kernel
theorem dX6_likeness_15 : decode cX6_likeness 15 = .ok (.aload_n 0, 1) := by decide +kernel
theorem dX6_likeness_16 : decode cX6_likeness 16 = .ok (.getfield 12, 3) := by decide +kernel
theorem dX6_likeness_19 : decode cX6_likeness 19 = .ok (.iconst 1, 1) := by decide +kernel
theorem dX6_likeness_20 : decode cX6_likeness 20 = .ok (.invokevirtual 53, 3) := by decide +kernel
theorem dX6_likeness_23 : decode cX6_likeness 23 = .ok (.getfield 57, 3) := by decide +kernel
theorem dX6_likeness_26 : decode cX6_likeness 26 = .ok (.iadd, 1) := by decide +kernel
theorem dX6_likeness_27 : decode cX6_likeness 27 = .ok (.istore_n 1, 1) := by decide +kernel
theorem dX6_likeness_28 : decode cX6_likeness 28 = .ok (.iload_n 1, 1) := by decide +kernel
theorem dX6_likeness_29 : decode cX6_likeness 29 = .ok (.ifCond .gt 5, 3) := by decide +kernel
theorem dX6_likeness_32 : decode cX6_likeness 32 = .ok (.dconst 1, 1) := by decide +kernel
theorem dX6_likeness_33 : decode cX6_likeness 33 = .ok (.dreturn, 1) := by decide +kernel
theorem dX6_likeness_34 : decode cX6_likeness 34 = .ok (.iconst 2, 1) := by decide +kernel
theorem dX6_likeness_35 : decode cX6_likeness 35 = .ok (.aload_n 0, 1) := by decide +kernel
theorem dX6_likeness_36 : decode cX6_likeness 36 = .ok (.getfield 21, 3) := by decide +kernel
theorem dX6_likeness_39 : decode cX6_likeness 39 = .ok (.getfield 208, 3) := by decide +kernel
theorem dX6_likeness_42 : decode cX6_likeness 42 = .ok (.getfield 212, 3) := by decide +kernel
theorem dX6_likeness_45 : decode cX6_likeness 45 = .ok (.iconst 1, 1) := by decide +kernel
theorem dX6_likeness_46 : decode cX6_likeness 46 = .ok (.iaload, 1) := by decide +kernel
theorem dX6_likeness_47 : decode cX6_likeness 47 = .ok (.imul, 1) := by decide +kernel
theorem dX6_likeness_48 : decode cX6_likeness 48 = .ok (.i2d, 1) := by decide +kernel
theorem dX6_likeness_49 : decode cX6_likeness 49 = .ok (.iload_n 1, 1) := by decide +kernel
theorem dX6_likeness_50 : decode cX6_likeness 50 = .ok (.i2d, 1) := by decide +kernel
theorem dX6_likeness_51 : decode cX6_likeness 51 = .ok (.ddiv, 1) := by decide +kernel
theorem dX6_likeness_52 : decode cX6_likeness 52 = .ok (.dreturn, 1) := by decide +kernel
theorem pd_X6_likeness : (parseMethodDescriptor yX6_likeness.desc).map (fun d => d.parameters.length) = some 0 := by decide +kernel
def w_X6_likeness (zz : Nat → Nat) (a0 : Nat) (h : AH) (Q : UInt64 → AH → Prop) : Prop := okA h a0 6 ∧ w_X6_refresh zz a0 h (fun  (h1 : AH) => okA h1 a0 6 ∧ ∃ b5 : Nat, hfR h1 a0 0 = some b5 ∧ okA h1 b5 4 ∧ w_X4_text zz b5 (0 : Int) h1 (fun (r9 : Nat) (h9 : AH) => okA h9 r9 5 ∧ okA h9 a0 6 ∧ ∃ b16 : Nat, hfR h9 a0 0 = some b16 ∧ okA h9 b16 4 ∧ w_X4_text zz b16 (1 : Int) h9 (fun (r20 : Nat) (h20 : AH) => okA h20 r20 5 ∧ inR ((hfI h9 r9 2) + (hfI h20 r20 2)) ∧ ∀ x1_27 : Int, x1_27 = ((hfI h9 r9 2) + (hfI h20 r20 2)) → ((0 < x1_27) → okA h20 a0 6 ∧ ∃ b36 : Nat, hfR h20 a0 1 = some b36 ∧ okA h20 b36 1 ∧ ∃ b39 : Nat, hfR h20 b36 0 = some b39 ∧ okA h20 b39 3 ∧ ∃ b42 : Nat, hfR h20 b39 4 = some b42 ∧ okI h20 b42 (1 : Int) ∧ inR ((2 : Int) * (haI h20 b42 (1 : Int))) ∧ vf_n64 (FP.ddiv (FP.i2d (Int32.ofInt ((2 : Int) * (haI h20 b42 (1 : Int))))) (FP.i2d (Int32.ofInt x1_27))) ∧ Q (FP.ddiv (FP.i2d (Int32.ofInt ((2 : Int) * (haI h20 b42 (1 : Int))))) (FP.i2d (Int32.ofInt x1_27))) h20) ∧ ((¬ (0 < x1_27)) → Q FP.dconst1 h20))))
set_option maxRecDepth 100000 in
set_option maxHeartbeats 4000000 in
theorem met_X6_likeness (G : GG) (l : Launch) : ∀ (As : List Value) (a0 : Nat) (h : AH) (Q : UInt64 → AH → Prop), As.map ab = List.map some ([vR a0] : List AV) → w_X6_likeness G.2.2 a0 h Q → Met l yX6_likeness (.code yX6_likeness cX6_likeness 2 (some .double) :: xTb) ({ frames := 6, cells := 0, slots := 0, locals := 136 } : Room) (PcA G As h) (QG G (oD Q)) 0 0 (frA G) := by
  intro As a0 h Q hA hw
  refine met_of hA (by decide) (Nat.le_of_ble_eq_true rfl) (fun p e s m args below meth c C hml hr hnm => ?_)
  unfold w_X6_likeness at hw
  refine aw_aload_n (pc := 0) C dX6_likeness_0 rfl rfl ?_
  obtain ⟨hp9, hw⟩ := hw
  refine aw_callV (pc := 1) (as := []) C ci6 (fun As hA => met_X6_refresh G l As a0 _ _ hA hw) tw285 tw287 (tbp 1 (n := 8) (by decide +kernel)) tw1 tw288 ⟨rfl, rfl⟩ ⟨rfl, by decide, by decide, pd_X6_refresh⟩ ⟨Nat.le_of_ble_eq_true rfl, Nat.le_of_ble_eq_true rfl⟩ ⟨Nat.zero_le _, Nat.zero_le _⟩ (Nat.le_of_ble_eq_true rfl) dX6_likeness_1 rfl hp9 (fun v9 h1 hq9 => ?_)
  obtain ⟨rfl, hw⟩ := hq9
  refine aw_aload_n (pc := 4) C dX6_likeness_4 rfl rfl ?_
  obtain ⟨hp9, b5, hb9, hw⟩ := hw
  refine aw_getR (pc := 5) C (ci := 6) (k := 0) ci6 (by decide) tw223 dX6_likeness_5 rfl hp9 hb9 ?_
  refine aw_iconst (pc := 8) C dX6_likeness_8 (i := (0 : Int)) (by decide) ?_
  obtain ⟨hp9, hw⟩ := hw
  refine aw_callV (pc := 9) (as := [vI (0 : Int)]) C ci4 (fun As hA => met_X4_text G l As b5 (0 : Int) _ _ hA hw) tw265 tw266 tw267 tw2 tw268 ⟨rfl, rfl⟩ ⟨rfl, by decide, by decide, pd_X4_text⟩ ⟨Nat.le_of_ble_eq_true rfl, Nat.le_of_ble_eq_true rfl⟩ ⟨Nat.zero_le _, Nat.zero_le _⟩ (Nat.le_of_ble_eq_true rfl) dX6_likeness_9 rfl hp9 (fun v9 h9 hq9 => ?_)
  obtain ⟨r9, rfl, hw⟩ := hq9
  obtain ⟨hp9, hw⟩ := hw
  refine aw_getI (pc := 12) C (ci := 5) (k := 2) ci5 (by decide) tw49 dX6_likeness_12 rfl hp9 ?_
  refine aw_aload_n (pc := 15) C dX6_likeness_15 rfl rfl ?_
  obtain ⟨hp9, b16, hb9, hw⟩ := hw
  refine aw_getR (pc := 16) C (ci := 6) (k := 0) ci6 (by decide) tw223 dX6_likeness_16 rfl hp9 hb9 ?_
  refine aw_iconst (pc := 19) C dX6_likeness_19 (i := (1 : Int)) (by decide) ?_
  obtain ⟨hp9, hw⟩ := hw
  refine aw_callV (pc := 20) (as := [vI (1 : Int)]) C ci4 (fun As hA => met_X4_text G l As b16 (1 : Int) _ _ hA hw) tw265 tw266 tw267 tw2 tw268 ⟨rfl, rfl⟩ ⟨rfl, by decide, by decide, pd_X4_text⟩ ⟨Nat.le_of_ble_eq_true rfl, Nat.le_of_ble_eq_true rfl⟩ ⟨Nat.zero_le _, Nat.zero_le _⟩ (Nat.le_of_ble_eq_true rfl) dX6_likeness_20 rfl hp9 (fun v9 h20 hq9 => ?_)
  obtain ⟨r20, rfl, hw⟩ := hq9
  obtain ⟨hp9, hw⟩ := hw
  refine aw_getI (pc := 23) C (ci := 5) (k := 2) ci5 (by decide) tw49 dX6_likeness_23 rfl hp9 ?_
  obtain ⟨hp9, hw⟩ := hw
  refine aw_iadd (pc := 26) C dX6_likeness_26 hp9 ?_
  refine aw_nmI (fun x1_27 e9 => ?_)
  have hw := hw x1_27 e9
  refine aw_istore_n (pc := 27) C dX6_likeness_27 rfl (by rw [hml]; decide) ?_
  refine aw_iload_n (pc := 28) C dX6_likeness_28 rfl rfl ?_
  refine aw_if_gt (pc := 29) (tgt := 34) C dX6_likeness_29 (by decide) (fun hc9 => ?_) (fun hc9 => ?_)
  · have hw := hw.1 hc9
    refine aw_iconst (pc := 34) C dX6_likeness_34 (i := (2 : Int)) (by decide) ?_
    refine aw_aload_n (pc := 35) C dX6_likeness_35 rfl rfl ?_
    obtain ⟨hp9, b36, hb9, hw⟩ := hw
    refine aw_getR (pc := 36) C (ci := 6) (k := 1) ci6 (by decide) tw224 dX6_likeness_36 rfl hp9 hb9 ?_
    obtain ⟨hp9, b39, hb9, hw⟩ := hw
    refine aw_getR (pc := 39) C (ci := 1) (k := 0) ci1 (by decide) tw174 dX6_likeness_39 rfl hp9 hb9 ?_
    obtain ⟨hp9, b42, hb9, hw⟩ := hw
    refine aw_getR (pc := 42) C (ci := 3) (k := 4) ci3 (by decide) tw104 dX6_likeness_42 rfl hp9 hb9 ?_
    refine aw_iconst (pc := 45) C dX6_likeness_45 (i := (1 : Int)) (by decide) ?_
    obtain ⟨⟨k9, hp9⟩, hw⟩ := hw
    refine aw_iald (pc := 46) C dX6_likeness_46 hp9 ?_
    obtain ⟨hp9, hw⟩ := hw
    refine aw_imul (pc := 47) C dX6_likeness_47 hp9 ?_
    refine aw_i2d (pc := 48) C dX6_likeness_48  ?_
    refine aw_iload_n (pc := 49) C dX6_likeness_49 rfl rfl ?_
    refine aw_i2d (pc := 50) C dX6_likeness_50  ?_
    obtain ⟨hp9, hw⟩ := hw
    refine aw_ddiv (pc := 51) C dX6_likeness_51 hp9 ?_
    exact aw_dret (pc := 52) C hr dX6_likeness_52 ⟨Nat.le_of_ble_eq_true rfl, Nat.le_of_ble_eq_true rfl⟩ ⟨_, rfl, hw⟩
  · have hw := hw.2 hc9
    refine aw_dconst1 (pc := 32) C dX6_likeness_32  ?_
    exact aw_dret (pc := 33) C hr dX6_likeness_33 ⟨Nat.le_of_ble_eq_true rfl, Nat.le_of_ble_eq_true rfl⟩ ⟨_, rfl, hw⟩
theorem dX6_mixNumbers_0 : decode cX6_mixNumbers 0 = .ok (.lload_n 1, 1) := by decide +kernel
theorem dX6_mixNumbers_1 : decode cX6_mixNumbers 1 = .ok (.lstore_n 3, 1) := by decide +kernel
theorem dX6_mixNumbers_2 : decode cX6_mixNumbers 2 = .ok (.iconst 0, 1) := by decide +kernel
theorem dX6_mixNumbers_3 : decode cX6_mixNumbers 3 = .ok (.istore 5, 2) := by decide +kernel
theorem dX6_mixNumbers_5 : decode cX6_mixNumbers 5 = .ok (.iload 5, 2) := by decide +kernel
theorem dX6_mixNumbers_7 : decode cX6_mixNumbers 7 = .ok (.bipush 12, 2) := by decide +kernel
theorem dX6_mixNumbers_9 : decode cX6_mixNumbers 9 = .ok (.if_icmp .ge 24, 3) := by decide +kernel
theorem dX6_mixNumbers_12 : decode cX6_mixNumbers 12 = .ok (.lload_n 3, 1) := by decide +kernel
theorem dX6_mixNumbers_13 : decode cX6_mixNumbers 13 = .ok (.aload_n 0, 1) := by decide +kernel
theorem dX6_mixNumbers_14 : decode cX6_mixNumbers 14 = .ok (.getfield 21, 3) := by decide +kernel
theorem dX6_mixNumbers_17 : decode cX6_mixNumbers 17 = .ok (.iload 5, 2) := by decide +kernel
theorem dX6_mixNumbers_19 : decode cX6_mixNumbers 19 = .ok (.invokevirtual 190, 3) := by decide +kernel
theorem dX6_mixNumbers_22 : decode cX6_mixNumbers 22 = .ok (.i2l, 1) := by decide +kernel
theorem dX6_mixNumbers_23 : decode cX6_mixNumbers 23 = .ok (.invokestatic 232, 3) := by decide +kernel
theorem dX6_mixNumbers_26 : decode cX6_mixNumbers 26 = .ok (.lstore_n 3, 1) := by decide +kernel
theorem dX6_mixNumbers_27 : decode cX6_mixNumbers 27 = .ok (.iinc 5 1, 3) := by decide +kernel
theorem dX6_mixNumbers_30 : decode cX6_mixNumbers 30 = .ok (.goto (-25), 3) := by decide +kernel
theorem dX6_mixNumbers_33 : decode cX6_mixNumbers 33 = .ok (.lload_n 3, 1) := by decide +kernel
theorem dX6_mixNumbers_34 : decode cX6_mixNumbers 34 = .ok (.aload_n 0, 1) := by decide +kernel
theorem dX6_mixNumbers_35 : decode cX6_mixNumbers 35 = .ok (.getfield 42, 3) := by decide +kernel
theorem dX6_mixNumbers_38 : decode cX6_mixNumbers 38 = .ok (.i2l, 1) := by decide +kernel
theorem dX6_mixNumbers_39 : decode cX6_mixNumbers 39 = .ok (.invokestatic 232, 3) := by decide +kernel
theorem dX6_mixNumbers_42 : decode cX6_mixNumbers 42 = .ok (.lstore_n 3, 1) := by decide +kernel
theorem dX6_mixNumbers_43 : decode cX6_mixNumbers 43 = .ok (.iconst 0, 1) := by decide +kernel
theorem dX6_mixNumbers_44 : decode cX6_mixNumbers 44 = .ok (.istore 5, 2) := by decide +kernel
theorem dX6_mixNumbers_46 : decode cX6_mixNumbers 46 = .ok (.iload 5, 2) := by decide +kernel
theorem dX6_mixNumbers_48 : decode cX6_mixNumbers 48 = .ok (.bipush 8, 2) := by decide +kernel
theorem dX6_mixNumbers_50 : decode cX6_mixNumbers 50 = .ok (.if_icmp .ge 25, 3) := by decide +kernel
theorem dX6_mixNumbers_53 : decode cX6_mixNumbers 53 = .ok (.lload_n 3, 1) := by decide +kernel
theorem dX6_mixNumbers_54 : decode cX6_mixNumbers 54 = .ok (.aload_n 0, 1) := by decide +kernel
theorem dX6_mixNumbers_55 : decode cX6_mixNumbers 55 = .ok (.getfield 12, 3) := by decide +kernel
theorem dX6_mixNumbers_58 : decode cX6_mixNumbers 58 = .ok (.getfield 85, 3) := by decide +kernel
theorem dX6_mixNumbers_61 : decode cX6_mixNumbers 61 = .ok (.iload 5, 2) := by decide +kernel
theorem dX6_mixNumbers_63 : decode cX6_mixNumbers 63 = .ok (.iaload, 1) := by decide +kernel
theorem dX6_mixNumbers_64 : decode cX6_mixNumbers 64 = .ok (.i2l, 1) := by decide +kernel
theorem dX6_mixNumbers_65 : decode cX6_mixNumbers 65 = .ok (.invokestatic 232, 3) := by decide +kernel
theorem dX6_mixNumbers_68 : decode cX6_mixNumbers 68 = .ok (.lstore_n 3, 1) := by decide +kernel
theorem dX6_mixNumbers_69 : decode cX6_mixNumbers 69 = .ok (.iinc 5 1, 3) := by decide +kernel
theorem dX6_mixNumbers_72 : decode cX6_mixNumbers 72 = .ok (.goto (-26), 3) := by decide +kernel
theorem dX6_mixNumbers_75 : decode cX6_mixNumbers 75 = .ok (.lload_n 3, 1) := by decide +kernel
theorem dX6_mixNumbers_76 : decode cX6_mixNumbers 76 = .ok (.lreturn, 1) := by decide +kernel
theorem pd_X6_mixNumbers : (parseMethodDescriptor yX6_mixNumbers.desc).map (fun d => d.parameters.length) = some 1 := by decide +kernel
def w_X6_mixNumbers (zz : Nat → Nat) (a0 : Nat) (a1 : Int64) (h : AH) (Q : Int64 → AH → Prop) : Prop := ∃ I_5 : Nat → Int64 → Int → AH → Prop, (∃ n, I_5 n a1 (0 : Int) h) ∧ ∀ (n_5 : Nat) (x3_5 : Int64) (x5_5 : Int) (h_5 : AH), I_5 n_5 x3_5 x5_5 h_5 → ((((12 : Int) ≤ x5_5) → okA h_5 a0 6 ∧ w_X6_mix zz x3_5 (Int64.ofInt (hfI h_5 a0 6)) h_5 (fun (r39 : Int64) (h39 : AH) => ∃ I_46 : Nat → Int64 → Int → AH → Prop, (∃ n, I_46 n r39 (0 : Int) h39) ∧ ∀ (n_46 : Nat) (x3_46 : Int64) (x5_46 : Int) (h_46 : AH), I_46 n_46 x3_46 x5_46 h_46 → ((((8 : Int) ≤ x5_46) → Q x3_46 h_46) ∧ ((¬ ((8 : Int) ≤ x5_46)) → okA h_46 a0 6 ∧ ∃ b55 : Nat, hfR h_46 a0 0 = some b55 ∧ okA h_46 b55 4 ∧ ∃ b58 : Nat, hfR h_46 b55 0 = some b58 ∧ okI h_46 b58 x5_46 ∧ w_X6_mix zz x3_46 (Int64.ofInt (haI h_46 b58 x5_46)) h_46 (fun (r65 : Int64) (h65 : AH) => inR (x5_46 + 1) ∧ ∀ x5_69 : Int, x5_69 = (x5_46 + 1) → ∃ m, m < n_46 ∧ I_46 m r65 x5_69 h65))))) ∧ ((¬ ((12 : Int) ≤ x5_5)) → okA h_5 a0 6 ∧ ∃ b14 : Nat, hfR h_5 a0 1 = some b14 ∧ okA h_5 b14 1 ∧ w_X1_number zz b14 x5_5 h_5 (fun (r19 : Int) (h19 : AH) => w_X6_mix zz x3_5 (Int64.ofInt r19) h19 (fun (r23 : Int64) (h23 : AH) => inR (x5_5 + 1) ∧ ∀ x5_27 : Int, x5_27 = (x5_5 + 1) → ∃ m, m < n_5 ∧ I_5 m r23 x5_27 h23))))
set_option maxRecDepth 100000 in
set_option maxHeartbeats 4000000 in
theorem met_X6_mixNumbers (G : GG) (l : Launch) : ∀ (As : List Value) (a0 : Nat) (a1 : Int64) (h : AH) (Q : Int64 → AH → Prop), As.map ab = List.map some ([vR a0, vL a1] : List AV) → w_X6_mixNumbers G.2.2 a0 a1 h Q → Met l yX6_mixNumbers (.code yX6_mixNumbers cX6_mixNumbers 6 (some .long) :: xTb) ({ frames := 4, cells := 0, slots := 0, locals := 88 } : Room) (PcA G As h) (QG G (oL Q)) 0 0 (frA G) := by
  intro As a0 a1 h Q hA hw
  refine met_of hA (by decide) (Nat.le_of_ble_eq_true rfl) (fun p e s m args below meth c C hml hr hnm => ?_)
  unfold w_X6_mixNumbers at hw
  refine aw_lload_n (pc := 0) C dX6_mixNumbers_0 rfl rfl ?_
  refine aw_lstore_n (pc := 1) C dX6_mixNumbers_1 rfl (by rw [hml]; decide) ?_
  refine aw_iconst (pc := 2) C dX6_mixNumbers_2 (i := (0 : Int)) (by decide) ?_
  refine aw_istore (pc := 3) C dX6_mixNumbers_3 (by rw [hml]; decide) ?_
  obtain ⟨I_5, ⟨n9, hi9⟩, hst9⟩ := hw
  have L_5 : ∀ (n_5 : Nat) (x3_5 : Int64) (x5_5 : Int) (h_5 : AH), I_5 n_5 x3_5 x5_5 h_5 → AW G p l e ({ frames := 4, cells := 0, slots := 0, locals := 88 } : Room) s m args below meth c 0 0 (MQ below (QG G (oL Q)) args s 0 0 (frA G)) 5 (eOf [(0, vR a0), (3, vL x3_5), (5, vI x5_5)]) [] h_5 := by
    intro n_5
    induction n_5 using Nat.strongRecOn with
    | _ n_5 ih_5 =>
    intro x3_5 x5_5 h_5 hi9
    have hw := hst9 n_5 x3_5 x5_5 h_5 hi9
    refine aw_iload (pc := 5) C dX6_mixNumbers_5 rfl ?_
    refine aw_bipush (pc := 7) C dX6_mixNumbers_7 (i := (12 : Int)) (by decide) ?_
    refine aw_icmp_ge (pc := 9) (tgt := 33) C dX6_mixNumbers_9 (by decide) (fun hc9 => ?_) (fun hc9 => ?_)
    · have hw := hw.1 hc9
      refine aw_lload_n (pc := 33) C dX6_mixNumbers_33 rfl rfl ?_
      refine aw_aload_n (pc := 34) C dX6_mixNumbers_34 rfl rfl ?_
      obtain ⟨hp9, hw⟩ := hw
      refine aw_getI (pc := 35) C (ci := 6) (k := 6) ci6 (by decide) tw229 dX6_mixNumbers_35 rfl hp9 ?_
      refine aw_i2l (pc := 38) C dX6_mixNumbers_38  ?_
      refine aw_callS (pc := 39) (as := [vL x3_5, vL (Int64.ofInt (hfI h_5 a0 6))]) C (fun As hA => met_X6_mix G l As x3_5 (Int64.ofInt (hfI h_5 a0 6)) _ _ hA hw) tw444 tw445 tw1 tw446 ⟨rfl, rfl⟩ ⟨by decide, by decide, pd_X6_mix⟩ ⟨Nat.le_of_ble_eq_true rfl, Nat.le_of_ble_eq_true rfl⟩ ⟨Nat.zero_le _, Nat.zero_le _⟩ (Nat.le_of_ble_eq_true rfl) dX6_mixNumbers_39 rfl (fun v9 h39 hq9 => ?_)
      obtain ⟨r39, rfl, hw⟩ := hq9
      refine aw_lstore_n (pc := 42) C dX6_mixNumbers_42 rfl (by rw [hml]; decide) ?_
      refine aw_iconst (pc := 43) C dX6_mixNumbers_43 (i := (0 : Int)) (by decide) ?_
      refine aw_istore (pc := 44) C dX6_mixNumbers_44 (by rw [hml]; decide) ?_
      obtain ⟨I_46, ⟨n9, hi9⟩, hst9⟩ := hw
      have L_46 : ∀ (n_46 : Nat) (x3_46 : Int64) (x5_46 : Int) (h_46 : AH), I_46 n_46 x3_46 x5_46 h_46 → AW G p l e ({ frames := 4, cells := 0, slots := 0, locals := 88 } : Room) s m args below meth c 0 0 (MQ below (QG G (oL Q)) args s 0 0 (frA G)) 46 (eOf [(0, vR a0), (3, vL x3_46), (5, vI x5_46)]) [] h_46 := by
        intro n_46
        induction n_46 using Nat.strongRecOn with
        | _ n_46 ih_46 =>
        intro x3_46 x5_46 h_46 hi9
        have hw := hst9 n_46 x3_46 x5_46 h_46 hi9
        refine aw_iload (pc := 46) C dX6_mixNumbers_46 rfl ?_
        refine aw_bipush (pc := 48) C dX6_mixNumbers_48 (i := (8 : Int)) (by decide) ?_
        refine aw_icmp_ge (pc := 50) (tgt := 75) C dX6_mixNumbers_50 (by decide) (fun hc9 => ?_) (fun hc9 => ?_)
        · have hw := hw.1 hc9
          refine aw_lload_n (pc := 75) C dX6_mixNumbers_75 rfl rfl ?_
          exact aw_lret (pc := 76) C hr dX6_mixNumbers_76 ⟨Nat.le_of_ble_eq_true rfl, Nat.le_of_ble_eq_true rfl⟩ ⟨_, rfl, hw⟩
        · have hw := hw.2 hc9
          refine aw_lload_n (pc := 53) C dX6_mixNumbers_53 rfl rfl ?_
          refine aw_aload_n (pc := 54) C dX6_mixNumbers_54 rfl rfl ?_
          obtain ⟨hp9, b55, hb9, hw⟩ := hw
          refine aw_getR (pc := 55) C (ci := 6) (k := 0) ci6 (by decide) tw223 dX6_mixNumbers_55 rfl hp9 hb9 ?_
          obtain ⟨hp9, b58, hb9, hw⟩ := hw
          refine aw_getR (pc := 58) C (ci := 4) (k := 0) ci4 (by decide) tw69 dX6_mixNumbers_58 rfl hp9 hb9 ?_
          refine aw_iload (pc := 61) C dX6_mixNumbers_61 rfl ?_
          obtain ⟨⟨k9, hp9⟩, hw⟩ := hw
          refine aw_iald (pc := 63) C dX6_mixNumbers_63 hp9 ?_
          refine aw_i2l (pc := 64) C dX6_mixNumbers_64  ?_
          refine aw_callS (pc := 65) (as := [vL x3_46, vL (Int64.ofInt (haI h_46 b58 x5_46))]) C (fun As hA => met_X6_mix G l As x3_46 (Int64.ofInt (haI h_46 b58 x5_46)) _ _ hA hw) tw444 tw445 tw1 tw446 ⟨rfl, rfl⟩ ⟨by decide, by decide, pd_X6_mix⟩ ⟨Nat.le_of_ble_eq_true rfl, Nat.le_of_ble_eq_true rfl⟩ ⟨Nat.zero_le _, Nat.zero_le _⟩ (Nat.le_of_ble_eq_true rfl) dX6_mixNumbers_65 rfl (fun v9 h65 hq9 => ?_)
          obtain ⟨r65, rfl, hw⟩ := hq9
          refine aw_lstore_n (pc := 68) C dX6_mixNumbers_68 rfl (by rw [hml]; decide) ?_
          obtain ⟨hp9, hw⟩ := hw
          refine aw_iincN (pc := 69) C dX6_mixNumbers_69 (k := 1) (by decide) rfl (by rw [hml]; decide) hp9 (fun x5_69 e9 => ?_)
          have hw := hw x5_69 e9
          refine aw_goto (pc := 72) (tgt := 46) C dX6_mixNumbers_72 (by decide) ?_
          obtain ⟨m9, hm9, hw⟩ := hw
          refine aw_sub [(0, vR a0), (3, vL r65), (5, vI x5_69)] ⟨rfl, rfl, rfl, trivial⟩ ?_
          exact ih_46 m9 hm9 _ _ _ hw
      refine aw_sub [(0, vR a0), (3, vL r39), (5, vI (0 : Int))] ⟨rfl, rfl, rfl, trivial⟩ ?_
      exact L_46 n9 _ _ _ hi9
    · have hw := hw.2 hc9
      refine aw_lload_n (pc := 12) C dX6_mixNumbers_12 rfl rfl ?_
      refine aw_aload_n (pc := 13) C dX6_mixNumbers_13 rfl rfl ?_
      obtain ⟨hp9, b14, hb9, hw⟩ := hw
      refine aw_getR (pc := 14) C (ci := 6) (k := 1) ci6 (by decide) tw224 dX6_mixNumbers_14 rfl hp9 hb9 ?_
      refine aw_iload (pc := 17) C dX6_mixNumbers_17 rfl ?_
      obtain ⟨hp9, hw⟩ := hw
      refine aw_callV (pc := 19) (as := [vI x5_5]) C ci1 (fun As hA => met_X1_number G l As b14 x5_5 _ _ hA hw) tw419 tw420 tw421 tw6 tw422 ⟨rfl, rfl⟩ ⟨rfl, by decide, by decide, pd_X1_number⟩ ⟨Nat.le_of_ble_eq_true rfl, Nat.le_of_ble_eq_true rfl⟩ ⟨Nat.zero_le _, Nat.zero_le _⟩ (Nat.le_of_ble_eq_true rfl) dX6_mixNumbers_19 rfl hp9 (fun v9 h19 hq9 => ?_)
      obtain ⟨r19, rfl, hw⟩ := hq9
      refine aw_i2l (pc := 22) C dX6_mixNumbers_22  ?_
      refine aw_callS (pc := 23) (as := [vL x3_5, vL (Int64.ofInt r19)]) C (fun As hA => met_X6_mix G l As x3_5 (Int64.ofInt r19) _ _ hA hw) tw444 tw445 tw1 tw446 ⟨rfl, rfl⟩ ⟨by decide, by decide, pd_X6_mix⟩ ⟨Nat.le_of_ble_eq_true rfl, Nat.le_of_ble_eq_true rfl⟩ ⟨Nat.zero_le _, Nat.zero_le _⟩ (Nat.le_of_ble_eq_true rfl) dX6_mixNumbers_23 rfl (fun v9 h23 hq9 => ?_)
      obtain ⟨r23, rfl, hw⟩ := hq9
      refine aw_lstore_n (pc := 26) C dX6_mixNumbers_26 rfl (by rw [hml]; decide) ?_
      obtain ⟨hp9, hw⟩ := hw
      refine aw_iincN (pc := 27) C dX6_mixNumbers_27 (k := 1) (by decide) rfl (by rw [hml]; decide) hp9 (fun x5_27 e9 => ?_)
      have hw := hw x5_27 e9
      refine aw_goto (pc := 30) (tgt := 5) C dX6_mixNumbers_30 (by decide) ?_
      obtain ⟨m9, hm9, hw⟩ := hw
      refine aw_sub [(0, vR a0), (3, vL r23), (5, vI x5_27)] ⟨rfl, rfl, rfl, trivial⟩ ?_
      exact ih_5 m9 hm9 _ _ _ hw
  refine aw_sub [(0, vR a0), (3, vL a1), (5, vI (0 : Int))] ⟨rfl, rfl, rfl, trivial⟩ ?_
  exact L_5 n9 _ _ _ hi9
theorem dX6_mixLetters_0 : decode cX6_mixLetters 0 = .ok (.lload_n 1, 1) := by decide +kernel
theorem dX6_mixLetters_1 : decode cX6_mixLetters 1 = .ok (.lstore_n 3, 1) := by decide +kernel
theorem dX6_mixLetters_2 : decode cX6_mixLetters 2 = .ok (.iconst 0, 1) := by decide +kernel
theorem dX6_mixLetters_3 : decode cX6_mixLetters 3 = .ok (.istore 5, 2) := by decide +kernel
theorem dX6_mixLetters_5 : decode cX6_mixLetters 5 = .ok (.iload 5, 2) := by decide +kernel
theorem dX6_mixLetters_7 : decode cX6_mixLetters 7 = .ok (.iconst 2, 1) := by decide +kernel
theorem dX6_mixLetters_8 : decode cX6_mixLetters 8 = .ok (.if_icmp .ge 67, 3) := by decide +kernel
theorem dX6_mixLetters_11 : decode cX6_mixLetters 11 = .ok (.aload_n 0, 1) := by decide +kernel
theorem dX6_mixLetters_12 : decode cX6_mixLetters 12 = .ok (.getfield 12, 3) := by decide +kernel
theorem dX6_mixLetters_15 : decode cX6_mixLetters 15 = .ok (.iload 5, 2) := by decide +kernel
theorem dX6_mixLetters_17 : decode cX6_mixLetters 17 = .ok (.invokevirtual 53, 3) := by decide +kernel
theorem dX6_mixLetters_20 : decode cX6_mixLetters 20 = .ok (.getfield 57, 3) := by decide +kernel
theorem dX6_mixLetters_23 : decode cX6_mixLetters 23 = .ok (.istore 6, 2) := by decide +kernel
theorem dX6_mixLetters_25 : decode cX6_mixLetters 25 = .ok (.iconst 0, 1) := by decide +kernel
theorem dX6_mixLetters_26 : decode cX6_mixLetters 26 = .ok (.istore 7, 2) := by decide +kernel
theorem dX6_mixLetters_28 : decode cX6_mixLetters 28 = .ok (.iload 7, 2) := by decide +kernel
theorem dX6_mixLetters_30 : decode cX6_mixLetters 30 = .ok (.iload 6, 2) := by decide +kernel
theorem dX6_mixLetters_32 : decode cX6_mixLetters 32 = .ok (.bipush 6, 2) := by decide +kernel
theorem dX6_mixLetters_34 : decode cX6_mixLetters 34 = .ok (.imul, 1) := by decide +kernel
theorem dX6_mixLetters_35 : decode cX6_mixLetters 35 = .ok (.if_icmp .ge 34, 3) := by decide +kernel
theorem dX6_mixLetters_38 : decode cX6_mixLetters 38 = .ok (.lload_n 3, 1) := by decide +kernel
theorem dX6_mixLetters_39 : decode cX6_mixLetters 39 = .ok (.aload_n 0, 1) := by decide +kernel
theorem dX6_mixLetters_40 : decode cX6_mixLetters 40 = .ok (.getfield 21, 3) := by decide +kernel
theorem dX6_mixLetters_43 : decode cX6_mixLetters 43 = .ok (.iload 5, 2) := by decide +kernel
theorem dX6_mixLetters_45 : decode cX6_mixLetters 45 = .ok (.iload 7, 2) := by decide +kernel
theorem dX6_mixLetters_47 : decode cX6_mixLetters 47 = .ok (.bipush 6, 2) := by decide +kernel
theorem dX6_mixLetters_49 : decode cX6_mixLetters 49 = .ok (.idiv, 1) := by decide +kernel
theorem dX6_mixLetters_50 : decode cX6_mixLetters 50 = .ok (.iload 7, 2) := by decide +kernel
theorem dX6_mixLetters_52 : decode cX6_mixLetters 52 = .ok (.bipush 6, 2) := by decide +kernel
theorem dX6_mixLetters_54 : decode cX6_mixLetters 54 = .ok (.irem, 1) := by decide +kernel
theorem dX6_mixLetters_55 : decode cX6_mixLetters 55 = .ok (.invokevirtual 157, 3) := by decide +kernel
theorem dX6_mixLetters_58 : decode cX6_mixLetters 58 = .ok (.i2l, 1) := by decide +kernel
theorem dX6_mixLetters_59 : decode cX6_mixLetters 59 = .ok (.invokestatic 232, 3) := by decide +kernel
theorem dX6_mixLetters_62 : decode cX6_mixLetters 62 = .ok (.lstore_n 3, 1) := by decide +kernel
theorem dX6_mixLetters_63 : decode cX6_mixLetters 63 = .ok (.iinc 7 1, 3) := by decide +kernel
theorem dX6_mixLetters_66 : decode cX6_mixLetters 66 = .ok (.goto (-38), 3) := by decide +kernel
theorem dX6_mixLetters_69 : decode cX6_mixLetters 69 = .ok (.iinc 5 1, 3) := by decide +kernel
theorem dX6_mixLetters_72 : decode cX6_mixLetters 72 = .ok (.goto (-67), 3) := by decide +kernel
theorem dX6_mixLetters_75 : decode cX6_mixLetters 75 = .ok (.iconst 0, 1) := by decide +kernel
theorem dX6_mixLetters_76 : decode cX6_mixLetters 76 = .ok (.istore 5, 2) := by decide +kernel
theorem dX6_mixLetters_78 : decode cX6_mixLetters 78 = .ok (.iload 5, 2) := by decide +kernel
theorem dX6_mixLetters_80 : decode cX6_mixLetters 80 = .ok (.aload_n 0, 1) := by decide +kernel
theorem dX6_mixLetters_81 : decode cX6_mixLetters 81 = .ok (.getfield 12, 3) := by decide +kernel
theorem dX6_mixLetters_84 : decode cX6_mixLetters 84 = .ok (.iconst 0, 1) := by decide +kernel
theorem dX6_mixLetters_85 : decode cX6_mixLetters 85 = .ok (.invokevirtual 53, 3) := by decide +kernel
theorem dX6_mixLetters_88 : decode cX6_mixLetters 88 = .ok (.getfield 57, 3) := by decide +kernel
theorem dX6_mixLetters_91 : decode cX6_mixLetters 91 = .ok (.iconst 3, 1) := by decide +kernel
theorem dX6_mixLetters_92 : decode cX6_mixLetters 92 = .ok (.imul, 1) := by decide +kernel
theorem dX6_mixLetters_93 : decode cX6_mixLetters 93 = .ok (.if_icmp .ge 30, 3) := by decide +kernel
theorem dX6_mixLetters_96 : decode cX6_mixLetters 96 = .ok (.lload_n 3, 1) := by decide +kernel
theorem dX6_mixLetters_97 : decode cX6_mixLetters 97 = .ok (.aload_n 0, 1) := by decide +kernel
theorem dX6_mixLetters_98 : decode cX6_mixLetters 98 = .ok (.getfield 21, 3) := by decide +kernel
theorem dX6_mixLetters_101 : decode cX6_mixLetters 101 = .ok (.iload 5, 2) := by decide +kernel
theorem dX6_mixLetters_103 : decode cX6_mixLetters 103 = .ok (.iconst 3, 1) := by decide +kernel
theorem dX6_mixLetters_104 : decode cX6_mixLetters 104 = .ok (.idiv, 1) := by decide +kernel
theorem dX6_mixLetters_105 : decode cX6_mixLetters 105 = .ok (.iload 5, 2) := by decide +kernel
theorem dX6_mixLetters_107 : decode cX6_mixLetters 107 = .ok (.iconst 3, 1) := by decide +kernel
theorem dX6_mixLetters_108 : decode cX6_mixLetters 108 = .ok (.irem, 1) := by decide +kernel
theorem dX6_mixLetters_109 : decode cX6_mixLetters 109 = .ok (.invokevirtual 166, 3) := by decide +kernel
theorem dX6_mixLetters_112 : decode cX6_mixLetters 112 = .ok (.i2l, 1) := by decide +kernel
theorem dX6_mixLetters_113 : decode cX6_mixLetters 113 = .ok (.invokestatic 232, 3) := by decide +kernel
theorem dX6_mixLetters_116 : decode cX6_mixLetters 116 = .ok (.lstore_n 3, 1) := by decide +kernel
theorem dX6_mixLetters_117 : decode cX6_mixLetters 117 = .ok (.iinc 5 1, 3) := by decide +kernel
theorem dX6_mixLetters_120 : decode cX6_mixLetters 120 = .ok (.goto (-42), 3) := by decide +kernel
theorem dX6_mixLetters_123 : decode cX6_mixLetters 123 = .ok (.lload_n 3, 1) := by decide +kernel
theorem dX6_mixLetters_124 : decode cX6_mixLetters 124 = .ok (.lreturn, 1) := by decide +kernel
theorem pd_X6_mixLetters : (parseMethodDescriptor yX6_mixLetters.desc).map (fun d => d.parameters.length) = some 1 := by decide +kernel
def w_X6_mixLetters (zz : Nat → Nat) (a0 : Nat) (a1 : Int64) (h : AH) (Q : Int64 → AH → Prop) : Prop := ∃ I_5 : Nat → Int64 → Int → AH → Prop, (∃ n, I_5 n a1 (0 : Int) h) ∧ ∀ (n_5 : Nat) (x3_5 : Int64) (x5_5 : Int) (h_5 : AH), I_5 n_5 x3_5 x5_5 h_5 → ((((2 : Int) ≤ x5_5) → ∃ I_78 : Nat → Int64 → Int → AH → Prop, (∃ n, I_78 n x3_5 (0 : Int) h_5) ∧ ∀ (n_78 : Nat) (x3_78 : Int64) (x5_78 : Int) (h_78 : AH), I_78 n_78 x3_78 x5_78 h_78 → (okA h_78 a0 6 ∧ ∃ b81 : Nat, hfR h_78 a0 0 = some b81 ∧ okA h_78 b81 4 ∧ w_X4_text zz b81 (0 : Int) h_78 (fun (r85 : Nat) (h85 : AH) => okA h85 r85 5 ∧ inR ((hfI h85 r85 2) * (3 : Int)) ∧ ((((hfI h85 r85 2) * (3 : Int)) ≤ x5_78) → Q x3_78 h85) ∧ ((¬ (((hfI h85 r85 2) * (3 : Int)) ≤ x5_78)) → okA h85 a0 6 ∧ ∃ b98 : Nat, hfR h85 a0 1 = some b98 ∧ (0 ≤ x5_78 ∧ 0 < (3 : Int)) ∧ (0 ≤ x5_78 ∧ 0 < (3 : Int)) ∧ okA h85 b98 1 ∧ w_X1_wayProperty zz b98 (x5_78 / (3 : Int)) (x5_78 % (3 : Int)) h85 (fun (r109 : Int) (h109 : AH) => w_X6_mix zz x3_78 (Int64.ofInt r109) h109 (fun (r113 : Int64) (h113 : AH) => inR (x5_78 + 1) ∧ ∀ x5_117 : Int, x5_117 = (x5_78 + 1) → ∃ m, m < n_78 ∧ I_78 m r113 x5_117 h113)))))) ∧ ((¬ ((2 : Int) ≤ x5_5)) → okA h_5 a0 6 ∧ ∃ b12 : Nat, hfR h_5 a0 0 = some b12 ∧ okA h_5 b12 4 ∧ w_X4_text zz b12 x5_5 h_5 (fun (r17 : Nat) (h17 : AH) => okA h17 r17 5 ∧ ∀ x6_23 : Int, x6_23 = (hfI h17 r17 2) → ∃ I_28 : Nat → Int64 → Int → AH → Prop, (∃ n, I_28 n x3_5 (0 : Int) h17) ∧ ∀ (n_28 : Nat) (x3_28 : Int64) (x7_28 : Int) (h_28 : AH), I_28 n_28 x3_28 x7_28 h_28 → (inR (x6_23 * (6 : Int)) ∧ (((x6_23 * (6 : Int)) ≤ x7_28) → inR (x5_5 + 1) ∧ ∀ x5_69 : Int, x5_69 = (x5_5 + 1) → ∃ m, m < n_5 ∧ I_5 m x3_28 x5_69 h_28) ∧ ((¬ ((x6_23 * (6 : Int)) ≤ x7_28)) → okA h_28 a0 6 ∧ ∃ b40 : Nat, hfR h_28 a0 1 = some b40 ∧ (0 ≤ x7_28 ∧ 0 < (6 : Int)) ∧ (0 ≤ x7_28 ∧ 0 < (6 : Int)) ∧ okA h_28 b40 1 ∧ w_X1_letterProperty zz b40 x5_5 (x7_28 / (6 : Int)) (x7_28 % (6 : Int)) h_28 (fun (r55 : Int) (h55 : AH) => w_X6_mix zz x3_28 (Int64.ofInt r55) h55 (fun (r59 : Int64) (h59 : AH) => inR (x7_28 + 1) ∧ ∀ x7_63 : Int, x7_63 = (x7_28 + 1) → ∃ m, m < n_28 ∧ I_28 m r59 x7_63 h59)))))))
set_option maxRecDepth 100000 in
set_option maxHeartbeats 4000000 in
theorem met_X6_mixLetters (G : GG) (l : Launch) : ∀ (As : List Value) (a0 : Nat) (a1 : Int64) (h : AH) (Q : Int64 → AH → Prop), As.map ab = List.map some ([vR a0, vL a1] : List AV) → w_X6_mixLetters G.2.2 a0 a1 h Q → Met l yX6_mixLetters (.code yX6_mixLetters cX6_mixLetters 8 (some .long) :: xTb) ({ frames := 3, cells := 0, slots := 0, locals := 69 } : Room) (PcA G As h) (QG G (oL Q)) 0 0 (frA G) := by
  intro As a0 a1 h Q hA hw
  refine met_of hA (by decide) (Nat.le_of_ble_eq_true rfl) (fun p e s m args below meth c C hml hr hnm => ?_)
  unfold w_X6_mixLetters at hw
  refine aw_lload_n (pc := 0) C dX6_mixLetters_0 rfl rfl ?_
  refine aw_lstore_n (pc := 1) C dX6_mixLetters_1 rfl (by rw [hml]; decide) ?_
  refine aw_iconst (pc := 2) C dX6_mixLetters_2 (i := (0 : Int)) (by decide) ?_
  refine aw_istore (pc := 3) C dX6_mixLetters_3 (by rw [hml]; decide) ?_
  obtain ⟨I_5, ⟨n9, hi9⟩, hst9⟩ := hw
  have L_5 : ∀ (n_5 : Nat) (x3_5 : Int64) (x5_5 : Int) (h_5 : AH), I_5 n_5 x3_5 x5_5 h_5 → AW G p l e ({ frames := 3, cells := 0, slots := 0, locals := 69 } : Room) s m args below meth c 0 0 (MQ below (QG G (oL Q)) args s 0 0 (frA G)) 5 (eOf [(0, vR a0), (3, vL x3_5), (5, vI x5_5)]) [] h_5 := by
    intro n_5
    induction n_5 using Nat.strongRecOn with
    | _ n_5 ih_5 =>
    intro x3_5 x5_5 h_5 hi9
    have hw := hst9 n_5 x3_5 x5_5 h_5 hi9
    refine aw_iload (pc := 5) C dX6_mixLetters_5 rfl ?_
    refine aw_iconst (pc := 7) C dX6_mixLetters_7 (i := (2 : Int)) (by decide) ?_
    refine aw_icmp_ge (pc := 8) (tgt := 75) C dX6_mixLetters_8 (by decide) (fun hc9 => ?_) (fun hc9 => ?_)
    · have hw := hw.1 hc9
      refine aw_iconst (pc := 75) C dX6_mixLetters_75 (i := (0 : Int)) (by decide) ?_
      refine aw_istore (pc := 76) C dX6_mixLetters_76 (by rw [hml]; decide) ?_
      obtain ⟨I_78, ⟨n9, hi9⟩, hst9⟩ := hw
      have L_78 : ∀ (n_78 : Nat) (x3_78 : Int64) (x5_78 : Int) (h_78 : AH), I_78 n_78 x3_78 x5_78 h_78 → AW G p l e ({ frames := 3, cells := 0, slots := 0, locals := 69 } : Room) s m args below meth c 0 0 (MQ below (QG G (oL Q)) args s 0 0 (frA G)) 78 (eOf [(0, vR a0), (3, vL x3_78), (5, vI x5_78)]) [] h_78 := by
        intro n_78
        induction n_78 using Nat.strongRecOn with
        | _ n_78 ih_78 =>
        intro x3_78 x5_78 h_78 hi9
        have hw := hst9 n_78 x3_78 x5_78 h_78 hi9
        refine aw_iload (pc := 78) C dX6_mixLetters_78 rfl ?_
        refine aw_aload_n (pc := 80) C dX6_mixLetters_80 rfl rfl ?_
        obtain ⟨hp9, b81, hb9, hw⟩ := hw
        refine aw_getR (pc := 81) C (ci := 6) (k := 0) ci6 (by decide) tw223 dX6_mixLetters_81 rfl hp9 hb9 ?_
        refine aw_iconst (pc := 84) C dX6_mixLetters_84 (i := (0 : Int)) (by decide) ?_
        obtain ⟨hp9, hw⟩ := hw
        refine aw_callV (pc := 85) (as := [vI (0 : Int)]) C ci4 (fun As hA => met_X4_text G l As b81 (0 : Int) _ _ hA hw) tw265 tw266 tw267 tw2 tw268 ⟨rfl, rfl⟩ ⟨rfl, by decide, by decide, pd_X4_text⟩ ⟨Nat.le_of_ble_eq_true rfl, Nat.le_of_ble_eq_true rfl⟩ ⟨Nat.zero_le _, Nat.zero_le _⟩ (Nat.le_of_ble_eq_true rfl) dX6_mixLetters_85 rfl hp9 (fun v9 h85 hq9 => ?_)
        obtain ⟨r85, rfl, hw⟩ := hq9
        obtain ⟨hp9, hw⟩ := hw
        refine aw_getI (pc := 88) C (ci := 5) (k := 2) ci5 (by decide) tw49 dX6_mixLetters_88 rfl hp9 ?_
        refine aw_iconst (pc := 91) C dX6_mixLetters_91 (i := (3 : Int)) (by decide) ?_
        obtain ⟨hp9, hw⟩ := hw
        refine aw_imul (pc := 92) C dX6_mixLetters_92 hp9 ?_
        refine aw_icmp_ge (pc := 93) (tgt := 123) C dX6_mixLetters_93 (by decide) (fun hc9 => ?_) (fun hc9 => ?_)
        · have hw := hw.1 hc9
          refine aw_lload_n (pc := 123) C dX6_mixLetters_123 rfl rfl ?_
          exact aw_lret (pc := 124) C hr dX6_mixLetters_124 ⟨Nat.le_of_ble_eq_true rfl, Nat.le_of_ble_eq_true rfl⟩ ⟨_, rfl, hw⟩
        · have hw := hw.2 hc9
          refine aw_lload_n (pc := 96) C dX6_mixLetters_96 rfl rfl ?_
          refine aw_aload_n (pc := 97) C dX6_mixLetters_97 rfl rfl ?_
          obtain ⟨hp9, b98, hb9, hw⟩ := hw
          refine aw_getR (pc := 98) C (ci := 6) (k := 1) ci6 (by decide) tw224 dX6_mixLetters_98 rfl hp9 hb9 ?_
          refine aw_iload (pc := 101) C dX6_mixLetters_101 rfl ?_
          refine aw_iconst (pc := 103) C dX6_mixLetters_103 (i := (3 : Int)) (by decide) ?_
          obtain ⟨hp9, hw⟩ := hw
          refine aw_idiv (pc := 104) C dX6_mixLetters_104 hp9 ?_
          refine aw_iload (pc := 105) C dX6_mixLetters_105 rfl ?_
          refine aw_iconst (pc := 107) C dX6_mixLetters_107 (i := (3 : Int)) (by decide) ?_
          obtain ⟨hp9, hw⟩ := hw
          refine aw_irem (pc := 108) C dX6_mixLetters_108 hp9 ?_
          obtain ⟨hp9, hw⟩ := hw
          refine aw_callV (pc := 109) (as := [vI (x5_78 / (3 : Int)), vI (x5_78 % (3 : Int))]) C ci1 (fun As hA => met_X1_wayProperty G l As b98 (x5_78 / (3 : Int)) (x5_78 % (3 : Int)) _ _ hA hw) tw457 tw458 tw459 tw6 tw460 ⟨rfl, rfl⟩ ⟨rfl, by decide, by decide, pd_X1_wayProperty⟩ ⟨Nat.le_of_ble_eq_true rfl, Nat.le_of_ble_eq_true rfl⟩ ⟨Nat.zero_le _, Nat.zero_le _⟩ (Nat.le_of_ble_eq_true rfl) dX6_mixLetters_109 rfl hp9 (fun v9 h109 hq9 => ?_)
          obtain ⟨r109, rfl, hw⟩ := hq9
          refine aw_i2l (pc := 112) C dX6_mixLetters_112  ?_
          refine aw_callS (pc := 113) (as := [vL x3_78, vL (Int64.ofInt r109)]) C (fun As hA => met_X6_mix G l As x3_78 (Int64.ofInt r109) _ _ hA hw) tw444 tw445 tw1 tw446 ⟨rfl, rfl⟩ ⟨by decide, by decide, pd_X6_mix⟩ ⟨Nat.le_of_ble_eq_true rfl, Nat.le_of_ble_eq_true rfl⟩ ⟨Nat.zero_le _, Nat.zero_le _⟩ (Nat.le_of_ble_eq_true rfl) dX6_mixLetters_113 rfl (fun v9 h113 hq9 => ?_)
          obtain ⟨r113, rfl, hw⟩ := hq9
          refine aw_lstore_n (pc := 116) C dX6_mixLetters_116 rfl (by rw [hml]; decide) ?_
          obtain ⟨hp9, hw⟩ := hw
          refine aw_iincN (pc := 117) C dX6_mixLetters_117 (k := 1) (by decide) rfl (by rw [hml]; decide) hp9 (fun x5_117 e9 => ?_)
          have hw := hw x5_117 e9
          refine aw_goto (pc := 120) (tgt := 78) C dX6_mixLetters_120 (by decide) ?_
          obtain ⟨m9, hm9, hw⟩ := hw
          refine aw_sub [(0, vR a0), (3, vL r113), (5, vI x5_117)] ⟨rfl, rfl, rfl, trivial⟩ ?_
          exact ih_78 m9 hm9 _ _ _ hw
      refine aw_sub [(0, vR a0), (3, vL x3_5), (5, vI (0 : Int))] ⟨rfl, rfl, rfl, trivial⟩ ?_
      exact L_78 n9 _ _ _ hi9
    · have hw := hw.2 hc9
      refine aw_aload_n (pc := 11) C dX6_mixLetters_11 rfl rfl ?_
      obtain ⟨hp9, b12, hb9, hw⟩ := hw
      refine aw_getR (pc := 12) C (ci := 6) (k := 0) ci6 (by decide) tw223 dX6_mixLetters_12 rfl hp9 hb9 ?_
      refine aw_iload (pc := 15) C dX6_mixLetters_15 rfl ?_
      obtain ⟨hp9, hw⟩ := hw
      refine aw_callV (pc := 17) (as := [vI x5_5]) C ci4 (fun As hA => met_X4_text G l As b12 x5_5 _ _ hA hw) tw265 tw266 tw267 tw2 tw268 ⟨rfl, rfl⟩ ⟨rfl, by decide, by decide, pd_X4_text⟩ ⟨Nat.le_of_ble_eq_true rfl, Nat.le_of_ble_eq_true rfl⟩ ⟨Nat.zero_le _, Nat.zero_le _⟩ (Nat.le_of_ble_eq_true rfl) dX6_mixLetters_17 rfl hp9 (fun v9 h17 hq9 => ?_)
      obtain ⟨r17, rfl, hw⟩ := hq9
      obtain ⟨hp9, hw⟩ := hw
      refine aw_getI (pc := 20) C (ci := 5) (k := 2) ci5 (by decide) tw49 dX6_mixLetters_20 rfl hp9 ?_
      refine aw_nmI (fun x6_23 e9 => ?_)
      have hw := hw x6_23 e9
      refine aw_istore (pc := 23) C dX6_mixLetters_23 (by rw [hml]; decide) ?_
      refine aw_iconst (pc := 25) C dX6_mixLetters_25 (i := (0 : Int)) (by decide) ?_
      refine aw_istore (pc := 26) C dX6_mixLetters_26 (by rw [hml]; decide) ?_
      obtain ⟨I_28, ⟨n9, hi9⟩, hst9⟩ := hw
      have L_28 : ∀ (n_28 : Nat) (x3_28 : Int64) (x7_28 : Int) (h_28 : AH), I_28 n_28 x3_28 x7_28 h_28 → AW G p l e ({ frames := 3, cells := 0, slots := 0, locals := 69 } : Room) s m args below meth c 0 0 (MQ below (QG G (oL Q)) args s 0 0 (frA G)) 28 (eOf [(0, vR a0), (3, vL x3_28), (5, vI x5_5), (6, vI x6_23), (7, vI x7_28)]) [] h_28 := by
        intro n_28
        induction n_28 using Nat.strongRecOn with
        | _ n_28 ih_28 =>
        intro x3_28 x7_28 h_28 hi9
        have hw := hst9 n_28 x3_28 x7_28 h_28 hi9
        refine aw_iload (pc := 28) C dX6_mixLetters_28 rfl ?_
        refine aw_iload (pc := 30) C dX6_mixLetters_30 rfl ?_
        refine aw_bipush (pc := 32) C dX6_mixLetters_32 (i := (6 : Int)) (by decide) ?_
        obtain ⟨hp9, hw⟩ := hw
        refine aw_imul (pc := 34) C dX6_mixLetters_34 hp9 ?_
        refine aw_icmp_ge (pc := 35) (tgt := 69) C dX6_mixLetters_35 (by decide) (fun hc9 => ?_) (fun hc9 => ?_)
        · have hw := hw.1 hc9
          obtain ⟨hp9, hw⟩ := hw
          refine aw_iincN (pc := 69) C dX6_mixLetters_69 (k := 1) (by decide) rfl (by rw [hml]; decide) hp9 (fun x5_69 e9 => ?_)
          have hw := hw x5_69 e9
          refine aw_goto (pc := 72) (tgt := 5) C dX6_mixLetters_72 (by decide) ?_
          obtain ⟨m9, hm9, hw⟩ := hw
          refine aw_sub [(0, vR a0), (3, vL x3_28), (5, vI x5_69)] ⟨rfl, rfl, rfl, trivial⟩ ?_
          exact ih_5 m9 hm9 _ _ _ hw
        · have hw := hw.2 hc9
          refine aw_lload_n (pc := 38) C dX6_mixLetters_38 rfl rfl ?_
          refine aw_aload_n (pc := 39) C dX6_mixLetters_39 rfl rfl ?_
          obtain ⟨hp9, b40, hb9, hw⟩ := hw
          refine aw_getR (pc := 40) C (ci := 6) (k := 1) ci6 (by decide) tw224 dX6_mixLetters_40 rfl hp9 hb9 ?_
          refine aw_iload (pc := 43) C dX6_mixLetters_43 rfl ?_
          refine aw_iload (pc := 45) C dX6_mixLetters_45 rfl ?_
          refine aw_bipush (pc := 47) C dX6_mixLetters_47 (i := (6 : Int)) (by decide) ?_
          obtain ⟨hp9, hw⟩ := hw
          refine aw_idiv (pc := 49) C dX6_mixLetters_49 hp9 ?_
          refine aw_iload (pc := 50) C dX6_mixLetters_50 rfl ?_
          refine aw_bipush (pc := 52) C dX6_mixLetters_52 (i := (6 : Int)) (by decide) ?_
          obtain ⟨hp9, hw⟩ := hw
          refine aw_irem (pc := 54) C dX6_mixLetters_54 hp9 ?_
          obtain ⟨hp9, hw⟩ := hw
          refine aw_callV (pc := 55) (as := [vI x5_5, vI (x7_28 / (6 : Int)), vI (x7_28 % (6 : Int))]) C ci1 (fun As hA => met_X1_letterProperty G l As b40 x5_5 (x7_28 / (6 : Int)) (x7_28 % (6 : Int)) _ _ hA hw) tw452 tw453 tw454 tw6 tw455 ⟨rfl, rfl⟩ ⟨rfl, by decide, by decide, pd_X1_letterProperty⟩ ⟨Nat.le_of_ble_eq_true rfl, Nat.le_of_ble_eq_true rfl⟩ ⟨Nat.zero_le _, Nat.zero_le _⟩ (Nat.le_of_ble_eq_true rfl) dX6_mixLetters_55 rfl hp9 (fun v9 h55 hq9 => ?_)
          obtain ⟨r55, rfl, hw⟩ := hq9
          refine aw_i2l (pc := 58) C dX6_mixLetters_58  ?_
          refine aw_callS (pc := 59) (as := [vL x3_28, vL (Int64.ofInt r55)]) C (fun As hA => met_X6_mix G l As x3_28 (Int64.ofInt r55) _ _ hA hw) tw444 tw445 tw1 tw446 ⟨rfl, rfl⟩ ⟨by decide, by decide, pd_X6_mix⟩ ⟨Nat.le_of_ble_eq_true rfl, Nat.le_of_ble_eq_true rfl⟩ ⟨Nat.zero_le _, Nat.zero_le _⟩ (Nat.le_of_ble_eq_true rfl) dX6_mixLetters_59 rfl (fun v9 h59 hq9 => ?_)
          obtain ⟨r59, rfl, hw⟩ := hq9
          refine aw_lstore_n (pc := 62) C dX6_mixLetters_62 rfl (by rw [hml]; decide) ?_
          obtain ⟨hp9, hw⟩ := hw
          refine aw_iincN (pc := 63) C dX6_mixLetters_63 (k := 1) (by decide) rfl (by rw [hml]; decide) hp9 (fun x7_63 e9 => ?_)
          have hw := hw x7_63 e9
          refine aw_goto (pc := 66) (tgt := 28) C dX6_mixLetters_66 (by decide) ?_
          obtain ⟨m9, hm9, hw⟩ := hw
          refine aw_sub [(0, vR a0), (3, vL r59), (5, vI x5_5), (6, vI x6_23), (7, vI x7_63)] ⟨rfl, rfl, rfl, rfl, rfl, trivial⟩ ?_
          exact ih_28 m9 hm9 _ _ _ hw
      refine aw_sub [(0, vR a0), (3, vL x3_5), (5, vI x5_5), (6, vI x6_23), (7, vI (0 : Int))] ⟨rfl, rfl, rfl, rfl, rfl, trivial⟩ ?_
      exact L_28 n9 _ _ _ hi9
  refine aw_sub [(0, vR a0), (3, vL a1), (5, vI (0 : Int))] ⟨rfl, rfl, rfl, trivial⟩ ?_
  exact L_5 n9 _ _ _ hi9
theorem dX6_mixFrames_0 : decode cX6_mixFrames 0 = .ok (.lload_n 1, 1) := by decide +kernel
theorem dX6_mixFrames_1 : decode cX6_mixFrames 1 = .ok (.lstore_n 3, 1) := by decide +kernel
theorem dX6_mixFrames_2 : decode cX6_mixFrames 2 = .ok (.aload_n 0, 1) := by decide +kernel
theorem dX6_mixFrames_3 : decode cX6_mixFrames 3 = .ok (.getfield 21, 3) := by decide +kernel
theorem dX6_mixFrames_6 : decode cX6_mixFrames 6 = .ok (.invokevirtual 138, 3) := by decide +kernel
theorem dX6_mixFrames_9 : decode cX6_mixFrames 9 = .ok (.istore 5, 2) := by decide +kernel
theorem dX6_mixFrames_11 : decode cX6_mixFrames 11 = .ok (.iconst 0, 1) := by decide +kernel
theorem dX6_mixFrames_12 : decode cX6_mixFrames 12 = .ok (.istore 6, 2) := by decide +kernel
theorem dX6_mixFrames_14 : decode cX6_mixFrames 14 = .ok (.iload 6, 2) := by decide +kernel
theorem dX6_mixFrames_16 : decode cX6_mixFrames 16 = .ok (.iload 5, 2) := by decide +kernel
theorem dX6_mixFrames_18 : decode cX6_mixFrames 18 = .ok (.iconst 5, 1) := by decide +kernel
theorem dX6_mixFrames_19 : decode cX6_mixFrames 19 = .ok (.imul, 1) := by decide +kernel
theorem dX6_mixFrames_20 : decode cX6_mixFrames 20 = .ok (.if_icmp .ge 30, 3) := by decide +kernel
theorem dX6_mixFrames_23 : decode cX6_mixFrames 23 = .ok (.lload_n 3, 1) := by decide +kernel
theorem dX6_mixFrames_24 : decode cX6_mixFrames 24 = .ok (.aload_n 0, 1) := by decide +kernel
theorem dX6_mixFrames_25 : decode cX6_mixFrames 25 = .ok (.getfield 21, 3) := by decide +kernel
theorem dX6_mixFrames_28 : decode cX6_mixFrames 28 = .ok (.iload 6, 2) := by decide +kernel
theorem dX6_mixFrames_30 : decode cX6_mixFrames 30 = .ok (.iconst 5, 1) := by decide +kernel
theorem dX6_mixFrames_31 : decode cX6_mixFrames 31 = .ok (.idiv, 1) := by decide +kernel
theorem dX6_mixFrames_32 : decode cX6_mixFrames 32 = .ok (.iload 6, 2) := by decide +kernel
theorem dX6_mixFrames_34 : decode cX6_mixFrames 34 = .ok (.iconst 5, 1) := by decide +kernel
theorem dX6_mixFrames_35 : decode cX6_mixFrames 35 = .ok (.irem, 1) := by decide +kernel
theorem dX6_mixFrames_36 : decode cX6_mixFrames 36 = .ok (.invokevirtual 185, 3) := by decide +kernel
theorem dX6_mixFrames_39 : decode cX6_mixFrames 39 = .ok (.i2l, 1) := by decide +kernel
theorem dX6_mixFrames_40 : decode cX6_mixFrames 40 = .ok (.invokestatic 232, 3) := by decide +kernel
theorem dX6_mixFrames_43 : decode cX6_mixFrames 43 = .ok (.lstore_n 3, 1) := by decide +kernel
theorem dX6_mixFrames_44 : decode cX6_mixFrames 44 = .ok (.iinc 6 1, 3) := by decide +kernel
theorem dX6_mixFrames_47 : decode cX6_mixFrames 47 = .ok (.goto (-33), 3) := by decide +kernel
theorem dX6_mixFrames_50 : decode cX6_mixFrames 50 = .ok (.iconst 0, 1) := by decide +kernel
theorem dX6_mixFrames_51 : decode cX6_mixFrames 51 = .ok (.istore 6, 2) := by decide +kernel
theorem dX6_mixFrames_53 : decode cX6_mixFrames 53 = .ok (.iload 6, 2) := by decide +kernel
theorem dX6_mixFrames_55 : decode cX6_mixFrames 55 = .ok (.bipush 80, 2) := by decide +kernel
theorem dX6_mixFrames_57 : decode cX6_mixFrames 57 = .ok (.if_icmp .ge 30, 3) := by decide +kernel
theorem dX6_mixFrames_60 : decode cX6_mixFrames 60 = .ok (.lload_n 3, 1) := by decide +kernel
theorem dX6_mixFrames_61 : decode cX6_mixFrames 61 = .ok (.aload_n 0, 1) := by decide +kernel
theorem dX6_mixFrames_62 : decode cX6_mixFrames 62 = .ok (.getfield 21, 3) := by decide +kernel
theorem dX6_mixFrames_65 : decode cX6_mixFrames 65 = .ok (.iload 5, 2) := by decide +kernel
theorem dX6_mixFrames_67 : decode cX6_mixFrames 67 = .ok (.iconst 1, 1) := by decide +kernel
theorem dX6_mixFrames_68 : decode cX6_mixFrames 68 = .ok (.isub, 1) := by decide +kernel
theorem dX6_mixFrames_69 : decode cX6_mixFrames 69 = .ok (.iconst 2, 1) := by decide +kernel
theorem dX6_mixFrames_70 : decode cX6_mixFrames 70 = .ok (.idiv, 1) := by decide +kernel
theorem dX6_mixFrames_71 : decode cX6_mixFrames 71 = .ok (.iload 6, 2) := by decide +kernel
theorem dX6_mixFrames_73 : decode cX6_mixFrames 73 = .ok (.invokevirtual 175, 3) := by decide +kernel
theorem dX6_mixFrames_76 : decode cX6_mixFrames 76 = .ok (.i2l, 1) := by decide +kernel
theorem dX6_mixFrames_77 : decode cX6_mixFrames 77 = .ok (.invokestatic 232, 3) := by decide +kernel
theorem dX6_mixFrames_80 : decode cX6_mixFrames 80 = .ok (.lstore_n 3, 1) := by decide +kernel
theorem dX6_mixFrames_81 : decode cX6_mixFrames 81 = .ok (.iinc 6 1, 3) := by decide +kernel
theorem dX6_mixFrames_84 : decode cX6_mixFrames 84 = .ok (.goto (-31), 3) := by decide +kernel
theorem dX6_mixFrames_87 : decode cX6_mixFrames 87 = .ok (.lload_n 3, 1) := by decide +kernel
theorem dX6_mixFrames_88 : decode cX6_mixFrames 88 = .ok (.lreturn, 1) := by decide +kernel
theorem pd_X6_mixFrames : (parseMethodDescriptor yX6_mixFrames.desc).map (fun d => d.parameters.length) = some 1 := by decide +kernel
def w_X6_mixFrames (zz : Nat → Nat) (a0 : Nat) (a1 : Int64) (h : AH) (Q : Int64 → AH → Prop) : Prop := okA h a0 6 ∧ ∃ b3 : Nat, hfR h a0 1 = some b3 ∧ okA h b3 1 ∧ w_X1_frames zz b3 h (fun (r6 : Int) (h6 : AH) => ∃ I_14 : Nat → Int64 → Int → AH → Prop, (∃ n, I_14 n a1 (0 : Int) h6) ∧ ∀ (n_14 : Nat) (x3_14 : Int64) (x6_14 : Int) (h_14 : AH), I_14 n_14 x3_14 x6_14 h_14 → (inR (r6 * (5 : Int)) ∧ (((r6 * (5 : Int)) ≤ x6_14) → ∃ I_53 : Nat → Int64 → Int → AH → Prop, (∃ n, I_53 n x3_14 (0 : Int) h_14) ∧ ∀ (n_53 : Nat) (x3_53 : Int64) (x6_53 : Int) (h_53 : AH), I_53 n_53 x3_53 x6_53 h_53 → ((((80 : Int) ≤ x6_53) → Q x3_53 h_53) ∧ ((¬ ((80 : Int) ≤ x6_53)) → okA h_53 a0 6 ∧ ∃ b62 : Nat, hfR h_53 a0 1 = some b62 ∧ inR (r6 - (1 : Int)) ∧ (0 ≤ (r6 - (1 : Int)) ∧ 0 < (2 : Int)) ∧ okA h_53 b62 1 ∧ w_X1_codeShown zz b62 ((r6 - (1 : Int)) / (2 : Int)) x6_53 h_53 (fun (r73 : Int) (h73 : AH) => w_X6_mix zz x3_53 (Int64.ofInt r73) h73 (fun (r77 : Int64) (h77 : AH) => inR (x6_53 + 1) ∧ ∀ x6_81 : Int, x6_81 = (x6_53 + 1) → ∃ m, m < n_53 ∧ I_53 m r77 x6_81 h77))))) ∧ ((¬ ((r6 * (5 : Int)) ≤ x6_14)) → okA h_14 a0 6 ∧ ∃ b25 : Nat, hfR h_14 a0 1 = some b25 ∧ (0 ≤ x6_14 ∧ 0 < (5 : Int)) ∧ (0 ≤ x6_14 ∧ 0 < (5 : Int)) ∧ okA h_14 b25 1 ∧ w_X1_frameProperty zz b25 (x6_14 / (5 : Int)) (x6_14 % (5 : Int)) h_14 (fun (r36 : Int) (h36 : AH) => w_X6_mix zz x3_14 (Int64.ofInt r36) h36 (fun (r40 : Int64) (h40 : AH) => inR (x6_14 + 1) ∧ ∀ x6_44 : Int, x6_44 = (x6_14 + 1) → ∃ m, m < n_14 ∧ I_14 m r40 x6_44 h40)))))
set_option maxRecDepth 100000 in
set_option maxHeartbeats 4000000 in
theorem met_X6_mixFrames (G : GG) (l : Launch) : ∀ (As : List Value) (a0 : Nat) (a1 : Int64) (h : AH) (Q : Int64 → AH → Prop), As.map ab = List.map some ([vR a0, vL a1] : List AV) → w_X6_mixFrames G.2.2 a0 a1 h Q → Met l yX6_mixFrames (.code yX6_mixFrames cX6_mixFrames 7 (some .long) :: xTb) ({ frames := 6, cells := 0, slots := 0, locals := 136 } : Room) (PcA G As h) (QG G (oL Q)) 0 0 (frA G) := by
  intro As a0 a1 h Q hA hw
  refine met_of hA (by decide) (Nat.le_of_ble_eq_true rfl) (fun p e s m args below meth c C hml hr hnm => ?_)
  unfold w_X6_mixFrames at hw
  refine aw_lload_n (pc := 0) C dX6_mixFrames_0 rfl rfl ?_
  refine aw_lstore_n (pc := 1) C dX6_mixFrames_1 rfl (by rw [hml]; decide) ?_
  refine aw_aload_n (pc := 2) C dX6_mixFrames_2 rfl rfl ?_
  obtain ⟨hp9, b3, hb9, hw⟩ := hw
  refine aw_getR (pc := 3) C (ci := 6) (k := 1) ci6 (by decide) tw224 dX6_mixFrames_3 rfl hp9 hb9 ?_
  obtain ⟨hp9, hw⟩ := hw
  refine aw_callV (pc := 6) (as := []) C ci1 (fun As hA => met_X1_frames G l As b3 _ _ hA hw) tw382 tw383 tw384 tw6 tw385 ⟨rfl, rfl⟩ ⟨rfl, by decide, by decide, pd_X1_frames⟩ ⟨Nat.le_of_ble_eq_true rfl, Nat.le_of_ble_eq_true rfl⟩ ⟨Nat.zero_le _, Nat.zero_le _⟩ (Nat.le_of_ble_eq_true rfl) dX6_mixFrames_6 rfl hp9 (fun v9 h6 hq9 => ?_)
  obtain ⟨r6, rfl, hw⟩ := hq9
  refine aw_istore (pc := 9) C dX6_mixFrames_9 (by rw [hml]; decide) ?_
  refine aw_iconst (pc := 11) C dX6_mixFrames_11 (i := (0 : Int)) (by decide) ?_
  refine aw_istore (pc := 12) C dX6_mixFrames_12 (by rw [hml]; decide) ?_
  obtain ⟨I_14, ⟨n9, hi9⟩, hst9⟩ := hw
  have L_14 : ∀ (n_14 : Nat) (x3_14 : Int64) (x6_14 : Int) (h_14 : AH), I_14 n_14 x3_14 x6_14 h_14 → AW G p l e ({ frames := 6, cells := 0, slots := 0, locals := 136 } : Room) s m args below meth c 0 0 (MQ below (QG G (oL Q)) args s 0 0 (frA G)) 14 (eOf [(0, vR a0), (3, vL x3_14), (5, vI r6), (6, vI x6_14)]) [] h_14 := by
    intro n_14
    induction n_14 using Nat.strongRecOn with
    | _ n_14 ih_14 =>
    intro x3_14 x6_14 h_14 hi9
    have hw := hst9 n_14 x3_14 x6_14 h_14 hi9
    refine aw_iload (pc := 14) C dX6_mixFrames_14 rfl ?_
    refine aw_iload (pc := 16) C dX6_mixFrames_16 rfl ?_
    refine aw_iconst (pc := 18) C dX6_mixFrames_18 (i := (5 : Int)) (by decide) ?_
    obtain ⟨hp9, hw⟩ := hw
    refine aw_imul (pc := 19) C dX6_mixFrames_19 hp9 ?_
    refine aw_icmp_ge (pc := 20) (tgt := 50) C dX6_mixFrames_20 (by decide) (fun hc9 => ?_) (fun hc9 => ?_)
    · have hw := hw.1 hc9
      refine aw_iconst (pc := 50) C dX6_mixFrames_50 (i := (0 : Int)) (by decide) ?_
      refine aw_istore (pc := 51) C dX6_mixFrames_51 (by rw [hml]; decide) ?_
      obtain ⟨I_53, ⟨n9, hi9⟩, hst9⟩ := hw
      have L_53 : ∀ (n_53 : Nat) (x3_53 : Int64) (x6_53 : Int) (h_53 : AH), I_53 n_53 x3_53 x6_53 h_53 → AW G p l e ({ frames := 6, cells := 0, slots := 0, locals := 136 } : Room) s m args below meth c 0 0 (MQ below (QG G (oL Q)) args s 0 0 (frA G)) 53 (eOf [(0, vR a0), (3, vL x3_53), (5, vI r6), (6, vI x6_53)]) [] h_53 := by
        intro n_53
        induction n_53 using Nat.strongRecOn with
        | _ n_53 ih_53 =>
        intro x3_53 x6_53 h_53 hi9
        have hw := hst9 n_53 x3_53 x6_53 h_53 hi9
        refine aw_iload (pc := 53) C dX6_mixFrames_53 rfl ?_
        refine aw_bipush (pc := 55) C dX6_mixFrames_55 (i := (80 : Int)) (by decide) ?_
        refine aw_icmp_ge (pc := 57) (tgt := 87) C dX6_mixFrames_57 (by decide) (fun hc9 => ?_) (fun hc9 => ?_)
        · have hw := hw.1 hc9
          refine aw_lload_n (pc := 87) C dX6_mixFrames_87 rfl rfl ?_
          exact aw_lret (pc := 88) C hr dX6_mixFrames_88 ⟨Nat.le_of_ble_eq_true rfl, Nat.le_of_ble_eq_true rfl⟩ ⟨_, rfl, hw⟩
        · have hw := hw.2 hc9
          refine aw_lload_n (pc := 60) C dX6_mixFrames_60 rfl rfl ?_
          refine aw_aload_n (pc := 61) C dX6_mixFrames_61 rfl rfl ?_
          obtain ⟨hp9, b62, hb9, hw⟩ := hw
          refine aw_getR (pc := 62) C (ci := 6) (k := 1) ci6 (by decide) tw224 dX6_mixFrames_62 rfl hp9 hb9 ?_
          refine aw_iload (pc := 65) C dX6_mixFrames_65 rfl ?_
          refine aw_iconst (pc := 67) C dX6_mixFrames_67 (i := (1 : Int)) (by decide) ?_
          obtain ⟨hp9, hw⟩ := hw
          refine aw_isub (pc := 68) C dX6_mixFrames_68 hp9 ?_
          refine aw_iconst (pc := 69) C dX6_mixFrames_69 (i := (2 : Int)) (by decide) ?_
          obtain ⟨hp9, hw⟩ := hw
          refine aw_idiv (pc := 70) C dX6_mixFrames_70 hp9 ?_
          refine aw_iload (pc := 71) C dX6_mixFrames_71 rfl ?_
          obtain ⟨hp9, hw⟩ := hw
          refine aw_callV (pc := 73) (as := [vI ((r6 - (1 : Int)) / (2 : Int)), vI x6_53]) C ci1 (fun As hA => met_X1_codeShown G l As b62 ((r6 - (1 : Int)) / (2 : Int)) x6_53 _ _ hA hw) tw523 tw524 tw525 tw6 tw526 ⟨rfl, rfl⟩ ⟨rfl, by decide, by decide, pd_X1_codeShown⟩ ⟨Nat.le_of_ble_eq_true rfl, Nat.le_of_ble_eq_true rfl⟩ ⟨Nat.zero_le _, Nat.zero_le _⟩ (Nat.le_of_ble_eq_true rfl) dX6_mixFrames_73 rfl hp9 (fun v9 h73 hq9 => ?_)
          obtain ⟨r73, rfl, hw⟩ := hq9
          refine aw_i2l (pc := 76) C dX6_mixFrames_76  ?_
          refine aw_callS (pc := 77) (as := [vL x3_53, vL (Int64.ofInt r73)]) C (fun As hA => met_X6_mix G l As x3_53 (Int64.ofInt r73) _ _ hA hw) tw444 tw445 tw1 tw446 ⟨rfl, rfl⟩ ⟨by decide, by decide, pd_X6_mix⟩ ⟨Nat.le_of_ble_eq_true rfl, Nat.le_of_ble_eq_true rfl⟩ ⟨Nat.zero_le _, Nat.zero_le _⟩ (Nat.le_of_ble_eq_true rfl) dX6_mixFrames_77 rfl (fun v9 h77 hq9 => ?_)
          obtain ⟨r77, rfl, hw⟩ := hq9
          refine aw_lstore_n (pc := 80) C dX6_mixFrames_80 rfl (by rw [hml]; decide) ?_
          obtain ⟨hp9, hw⟩ := hw
          refine aw_iincN (pc := 81) C dX6_mixFrames_81 (k := 1) (by decide) rfl (by rw [hml]; decide) hp9 (fun x6_81 e9 => ?_)
          have hw := hw x6_81 e9
          refine aw_goto (pc := 84) (tgt := 53) C dX6_mixFrames_84 (by decide) ?_
          obtain ⟨m9, hm9, hw⟩ := hw
          refine aw_sub [(0, vR a0), (3, vL r77), (5, vI r6), (6, vI x6_81)] ⟨rfl, rfl, rfl, rfl, trivial⟩ ?_
          exact ih_53 m9 hm9 _ _ _ hw
      refine aw_sub [(0, vR a0), (3, vL x3_14), (5, vI r6), (6, vI (0 : Int))] ⟨rfl, rfl, rfl, rfl, trivial⟩ ?_
      exact L_53 n9 _ _ _ hi9
    · have hw := hw.2 hc9
      refine aw_lload_n (pc := 23) C dX6_mixFrames_23 rfl rfl ?_
      refine aw_aload_n (pc := 24) C dX6_mixFrames_24 rfl rfl ?_
      obtain ⟨hp9, b25, hb9, hw⟩ := hw
      refine aw_getR (pc := 25) C (ci := 6) (k := 1) ci6 (by decide) tw224 dX6_mixFrames_25 rfl hp9 hb9 ?_
      refine aw_iload (pc := 28) C dX6_mixFrames_28 rfl ?_
      refine aw_iconst (pc := 30) C dX6_mixFrames_30 (i := (5 : Int)) (by decide) ?_
      obtain ⟨hp9, hw⟩ := hw
      refine aw_idiv (pc := 31) C dX6_mixFrames_31 hp9 ?_
      refine aw_iload (pc := 32) C dX6_mixFrames_32 rfl ?_
      refine aw_iconst (pc := 34) C dX6_mixFrames_34 (i := (5 : Int)) (by decide) ?_
      obtain ⟨hp9, hw⟩ := hw
      refine aw_irem (pc := 35) C dX6_mixFrames_35 hp9 ?_
      obtain ⟨hp9, hw⟩ := hw
      refine aw_callV (pc := 36) (as := [vI (x6_14 / (5 : Int)), vI (x6_14 % (5 : Int))]) C ci1 (fun As hA => met_X1_frameProperty G l As b25 (x6_14 / (5 : Int)) (x6_14 % (5 : Int)) _ _ hA hw) tw465 tw466 tw467 tw6 tw468 ⟨rfl, rfl⟩ ⟨rfl, by decide, by decide, pd_X1_frameProperty⟩ ⟨Nat.le_of_ble_eq_true rfl, Nat.le_of_ble_eq_true rfl⟩ ⟨Nat.zero_le _, Nat.zero_le _⟩ (Nat.le_of_ble_eq_true rfl) dX6_mixFrames_36 rfl hp9 (fun v9 h36 hq9 => ?_)
      obtain ⟨r36, rfl, hw⟩ := hq9
      refine aw_i2l (pc := 39) C dX6_mixFrames_39  ?_
      refine aw_callS (pc := 40) (as := [vL x3_14, vL (Int64.ofInt r36)]) C (fun As hA => met_X6_mix G l As x3_14 (Int64.ofInt r36) _ _ hA hw) tw444 tw445 tw1 tw446 ⟨rfl, rfl⟩ ⟨by decide, by decide, pd_X6_mix⟩ ⟨Nat.le_of_ble_eq_true rfl, Nat.le_of_ble_eq_true rfl⟩ ⟨Nat.zero_le _, Nat.zero_le _⟩ (Nat.le_of_ble_eq_true rfl) dX6_mixFrames_40 rfl (fun v9 h40 hq9 => ?_)
      obtain ⟨r40, rfl, hw⟩ := hq9
      refine aw_lstore_n (pc := 43) C dX6_mixFrames_43 rfl (by rw [hml]; decide) ?_
      obtain ⟨hp9, hw⟩ := hw
      refine aw_iincN (pc := 44) C dX6_mixFrames_44 (k := 1) (by decide) rfl (by rw [hml]; decide) hp9 (fun x6_44 e9 => ?_)
      have hw := hw x6_44 e9
      refine aw_goto (pc := 47) (tgt := 14) C dX6_mixFrames_47 (by decide) ?_
      obtain ⟨m9, hm9, hw⟩ := hw
      refine aw_sub [(0, vR a0), (3, vL r40), (5, vI r6), (6, vI x6_44)] ⟨rfl, rfl, rfl, rfl, trivial⟩ ?_
      exact ih_14 m9 hm9 _ _ _ hw
  refine aw_sub [(0, vR a0), (3, vL a1), (5, vI r6), (6, vI (0 : Int))] ⟨rfl, rfl, rfl, rfl, trivial⟩ ?_
  exact L_14 n9 _ _ _ hi9
theorem dX6_digest_0 : decode cX6_digest 0 = .ok (.aload_n 0, 1) := by decide +kernel
theorem dX6_digest_1 : decode cX6_digest 1 = .ok (.invokevirtual 135, 3) := by decide +kernel
theorem dX6_digest_4 : decode cX6_digest 4 = .ok (.aload_n 0, 1) := by decide +kernel
theorem dX6_digest_5 : decode cX6_digest 5 = .ok (.ldc2_w 217, 3) := by decide +kernel
theorem dX6_digest_8 : decode cX6_digest 8 = .ok (.invokevirtual 219, 3) := by decide +kernel
theorem dX6_digest_11 : decode cX6_digest 11 = .ok (.lstore_n 1, 1) := by decide +kernel
theorem dX6_digest_12 : decode cX6_digest 12 = .ok (.aload_n 0, 1) := by decide +kernel
theorem dX6_digest_13 : decode cX6_digest 13 = .ok (.lload_n 1, 1) := by decide +kernel
theorem dX6_digest_14 : decode cX6_digest 14 = .ok (.invokevirtual 223, 3) := by decide +kernel
theorem dX6_digest_17 : decode cX6_digest 17 = .ok (.lstore_n 1, 1) := by decide +kernel
theorem dX6_digest_18 : decode cX6_digest 18 = .ok (.aload_n 0, 1) := by decide +kernel
theorem dX6_digest_19 : decode cX6_digest 19 = .ok (.lload_n 1, 1) := by decide +kernel
theorem dX6_digest_20 : decode cX6_digest 20 = .ok (.invokevirtual 226, 3) := by decide +kernel
theorem dX6_digest_23 : decode cX6_digest 23 = .ok (.lstore_n 1, 1) := by decide +kernel
theorem dX6_digest_24 : decode cX6_digest 24 = .ok (.lload_n 1, 1) := by decide +kernel
theorem dX6_digest_25 : decode cX6_digest 25 = .ok (.aload_n 0, 1) := by decide +kernel
theorem dX6_digest_26 : decode cX6_digest 26 = .ok (.invokevirtual 229, 3) := by decide +kernel
theorem dX6_digest_29 : decode cX6_digest 29 = .ok (.i2l, 1) := by decide +kernel
theorem dX6_digest_30 : decode cX6_digest 30 = .ok (.invokestatic 232, 3) := by decide +kernel
theorem dX6_digest_33 : decode cX6_digest 33 = .ok (.lstore_n 1, 1) := by decide +kernel
theorem dX6_digest_34 : decode cX6_digest 34 = .ok (.lload_n 1, 1) := by decide +kernel
theorem dX6_digest_35 : decode cX6_digest 35 = .ok (.aload_n 0, 1) := by decide +kernel
theorem dX6_digest_36 : decode cX6_digest 36 = .ok (.invokevirtual 236, 3) := by decide +kernel
theorem dX6_digest_39 : decode cX6_digest 39 = .ok (.invokestatic 240, 3) := by decide +kernel
theorem dX6_digest_42 : decode cX6_digest 42 = .ok (.invokestatic 232, 3) := by decide +kernel
theorem dX6_digest_45 : decode cX6_digest 45 = .ok (.lstore_n 1, 1) := by decide +kernel
theorem dX6_digest_46 : decode cX6_digest 46 = .ok (.lload_n 1, 1) := by decide +kernel
theorem dX6_digest_47 : decode cX6_digest 47 = .ok (.aload_n 0, 1) := by decide +kernel
theorem dX6_digest_48 : decode cX6_digest 48 = .ok (.getfield 38, 3) := by decide +kernel
theorem dX6_digest_51 : decode cX6_digest 51 = .ok (.getfield 98, 3) := by decide +kernel
theorem dX6_digest_54 : decode cX6_digest 54 = .ok (.i2l, 1) := by decide +kernel
theorem dX6_digest_55 : decode cX6_digest 55 = .ok (.invokestatic 232, 3) := by decide +kernel
theorem dX6_digest_58 : decode cX6_digest 58 = .ok (.lstore_n 1, 1) := by decide +kernel
theorem dX6_digest_59 : decode cX6_digest 59 = .ok (.iconst 0, 1) := by decide +kernel
theorem dX6_digest_60 : decode cX6_digest 60 = .ok (.istore_n 3, 1) := by decide +kernel
theorem dX6_digest_61 : decode cX6_digest 61 = .ok (.iload_n 3, 1) := by decide +kernel
theorem dX6_digest_62 : decode cX6_digest 62 = .ok (.aload_n 0, 1) := by decide +kernel
theorem dX6_digest_63 : decode cX6_digest 63 = .ok (.getfield 38, 3) := by decide +kernel
theorem dX6_digest_66 : decode cX6_digest 66 = .ok (.getfield 98, 3) := by decide +kernel
theorem dX6_digest_69 : decode cX6_digest 69 = .ok (.if_icmp .ge 24, 3) := by decide +kernel
theorem dX6_digest_72 : decode cX6_digest 72 = .ok (.lload_n 1, 1) := by decide +kernel
theorem dX6_digest_73 : decode cX6_digest 73 = .ok (.aload_n 0, 1) := by decide +kernel
theorem dX6_digest_74 : decode cX6_digest 74 = .ok (.getfield 38, 3) := by decide +kernel
theorem dX6_digest_77 : decode cX6_digest 77 = .ok (.getfield 150, 3) := by decide +kernel
theorem dX6_digest_80 : decode cX6_digest 80 = .ok (.iload_n 3, 1) := by decide +kernel
theorem dX6_digest_81 : decode cX6_digest 81 = .ok (.iaload, 1) := by decide +kernel
theorem dX6_digest_82 : decode cX6_digest 82 = .ok (.i2l, 1) := by decide +kernel
theorem dX6_digest_83 : decode cX6_digest 83 = .ok (.invokestatic 232, 3) := by decide +kernel
theorem dX6_digest_86 : decode cX6_digest 86 = .ok (.lstore_n 1, 1) := by decide +kernel
theorem dX6_digest_87 : decode cX6_digest 87 = .ok (.iinc 3 1, 3) := by decide +kernel
theorem dX6_digest_90 : decode cX6_digest 90 = .ok (.goto (-29), 3) := by decide +kernel
theorem dX6_digest_93 : decode cX6_digest 93 = .ok (.lload_n 1, 1) := by decide +kernel
theorem dX6_digest_94 : decode cX6_digest 94 = .ok (.lreturn, 1) := by decide +kernel
theorem pd_X6_digest : (parseMethodDescriptor yX6_digest.desc).map (fun d => d.parameters.length) = some 0 := by decide +kernel
def w_X6_digest (zz : Nat → Nat) (a0 : Nat) (h : AH) (Q : Int64 → AH → Prop) : Prop := okA h a0 6 ∧ w_X6_refresh zz a0 h (fun  (h1 : AH) => okA h1 a0 6 ∧ w_X6_mixNumbers zz a0 (2111 : Int64) h1 (fun (r8 : Int64) (h8 : AH) => okA h8 a0 6 ∧ w_X6_mixLetters zz a0 r8 h8 (fun (r14 : Int64) (h14 : AH) => okA h14 a0 6 ∧ w_X6_mixFrames zz a0 r14 h14 (fun (r20 : Int64) (h20 : AH) => okA h20 a0 6 ∧ w_X6_best zz a0 h20 (fun (r26 : Int) (h26 : AH) => w_X6_mix zz r20 (Int64.ofInt r26) h26 (fun (r30 : Int64) (h30 : AH) => okA h30 a0 6 ∧ w_X6_likeness zz a0 h30 (fun (r36 : UInt64) (h36 : AH) => w_X6_bits zz r36 h36 (fun (r39 : Int64) (h39 : AH) => w_X6_mix zz r30 r39 h39 (fun (r42 : Int64) (h42 : AH) => okA h42 a0 6 ∧ ∃ b48 : Nat, hfR h42 a0 5 = some b48 ∧ okA h42 b48 0 ∧ w_X6_mix zz r42 (Int64.ofInt (hfI h42 b48 2)) h42 (fun (r55 : Int64) (h55 : AH) => ∃ I_61 : Nat → Int64 → Int → AH → Prop, (∃ n, I_61 n r55 (0 : Int) h55) ∧ ∀ (n_61 : Nat) (x1_61 : Int64) (x3_61 : Int) (h_61 : AH), I_61 n_61 x1_61 x3_61 h_61 → (okA h_61 a0 6 ∧ ∃ b63 : Nat, hfR h_61 a0 5 = some b63 ∧ okA h_61 b63 0 ∧ (((hfI h_61 b63 2) ≤ x3_61) → Q x1_61 h_61) ∧ ((¬ ((hfI h_61 b63 2) ≤ x3_61)) → okA h_61 a0 6 ∧ ∃ b74 : Nat, hfR h_61 a0 5 = some b74 ∧ okA h_61 b74 0 ∧ ∃ b77 : Nat, hfR h_61 b74 0 = some b77 ∧ okI h_61 b77 x3_61 ∧ w_X6_mix zz x1_61 (Int64.ofInt (haI h_61 b77 x3_61)) h_61 (fun (r83 : Int64) (h83 : AH) => inR (x3_61 + 1) ∧ ∀ x3_87 : Int, x3_87 = (x3_61 + 1) → ∃ m, m < n_61 ∧ I_61 m r83 x3_87 h83)))))))))))))
set_option maxRecDepth 100000 in
set_option maxHeartbeats 4000000 in
theorem met_X6_digest (G : GG) (l : Launch) : ∀ (As : List Value) (a0 : Nat) (h : AH) (Q : Int64 → AH → Prop), As.map ab = List.map some ([vR a0] : List AV) → w_X6_digest G.2.2 a0 h Q → Met l yX6_digest (.code yX6_digest cX6_digest 4 (some .long) :: xTb) ({ frames := 7, cells := 0, slots := 0, locals := 162 } : Room) (PcA G As h) (QG G (oL Q)) 0 0 (frA G) := by
  intro As a0 h Q hA hw
  refine met_of hA (by decide) (Nat.le_of_ble_eq_true rfl) (fun p e s m args below meth c C hml hr hnm => ?_)
  unfold w_X6_digest at hw
  refine aw_aload_n (pc := 0) C dX6_digest_0 rfl rfl ?_
  obtain ⟨hp9, hw⟩ := hw
  refine aw_callV (pc := 1) (as := []) C ci6 (fun As hA => met_X6_refresh G l As a0 _ _ hA hw) tw285 tw287 (tbp 1 (n := 8) (by decide +kernel)) tw1 tw288 ⟨rfl, rfl⟩ ⟨rfl, by decide, by decide, pd_X6_refresh⟩ ⟨Nat.le_of_ble_eq_true rfl, Nat.le_of_ble_eq_true rfl⟩ ⟨Nat.zero_le _, Nat.zero_le _⟩ (Nat.le_of_ble_eq_true rfl) dX6_digest_1 rfl hp9 (fun v9 h1 hq9 => ?_)
  obtain ⟨rfl, hw⟩ := hq9
  refine aw_aload_n (pc := 4) C dX6_digest_4 rfl rfl ?_
  refine aw_ldc2 (pc := 5) C tw414 dX6_digest_5 ?_
  obtain ⟨hp9, hw⟩ := hw
  refine aw_callV (pc := 8) (as := [vL (2111 : Int64)]) C ci6 (fun As hA => met_X6_mixNumbers G l As a0 (2111 : Int64) _ _ hA hw) tw415 tw417 (tbp 15 (n := 8) (by decide +kernel)) tw1 tw418 ⟨rfl, rfl⟩ ⟨rfl, by decide, by decide, pd_X6_mixNumbers⟩ ⟨Nat.le_of_ble_eq_true rfl, Nat.le_of_ble_eq_true rfl⟩ ⟨Nat.zero_le _, Nat.zero_le _⟩ (Nat.le_of_ble_eq_true rfl) dX6_digest_8 rfl hp9 (fun v9 h8 hq9 => ?_)
  obtain ⟨r8, rfl, hw⟩ := hq9
  refine aw_lstore_n (pc := 11) C dX6_digest_11 rfl (by rw [hml]; decide) ?_
  refine aw_aload_n (pc := 12) C dX6_digest_12 rfl rfl ?_
  refine aw_lload_n (pc := 13) C dX6_digest_13 rfl rfl ?_
  obtain ⟨hp9, hw⟩ := hw
  refine aw_callV (pc := 14) (as := [vL r8]) C ci6 (fun As hA => met_X6_mixLetters G l As a0 r8 _ _ hA hw) tw448 tw450 (tbp 20 (n := 8) (by decide +kernel)) tw1 tw451 ⟨rfl, rfl⟩ ⟨rfl, by decide, by decide, pd_X6_mixLetters⟩ ⟨Nat.le_of_ble_eq_true rfl, Nat.le_of_ble_eq_true rfl⟩ ⟨Nat.zero_le _, Nat.zero_le _⟩ (Nat.le_of_ble_eq_true rfl) dX6_digest_14 rfl hp9 (fun v9 h14 hq9 => ?_)
  obtain ⟨r14, rfl, hw⟩ := hq9
  refine aw_lstore_n (pc := 17) C dX6_digest_17 rfl (by rw [hml]; decide) ?_
  refine aw_aload_n (pc := 18) C dX6_digest_18 rfl rfl ?_
  refine aw_lload_n (pc := 19) C dX6_digest_19 rfl rfl ?_
  obtain ⟨hp9, hw⟩ := hw
  refine aw_callV (pc := 20) (as := [vL r14]) C ci6 (fun As hA => met_X6_mixFrames G l As a0 r14 _ _ hA hw) tw461 tw463 (tbp 21 (n := 8) (by decide +kernel)) tw1 tw464 ⟨rfl, rfl⟩ ⟨rfl, by decide, by decide, pd_X6_mixFrames⟩ ⟨Nat.le_of_ble_eq_true rfl, Nat.le_of_ble_eq_true rfl⟩ ⟨Nat.zero_le _, Nat.zero_le _⟩ (Nat.le_of_ble_eq_true rfl) dX6_digest_20 rfl hp9 (fun v9 h20 hq9 => ?_)
  obtain ⟨r20, rfl, hw⟩ := hq9
  refine aw_lstore_n (pc := 23) C dX6_digest_23 rfl (by rw [hml]; decide) ?_
  refine aw_lload_n (pc := 24) C dX6_digest_24 rfl rfl ?_
  refine aw_aload_n (pc := 25) C dX6_digest_25 rfl rfl ?_
  obtain ⟨hp9, hw⟩ := hw
  refine aw_callV (pc := 26) (as := []) C ci6 (fun As hA => met_X6_best G l As a0 _ _ hA hw) tw527 tw403 tw404 tw1 tw405 ⟨rfl, rfl⟩ ⟨rfl, by decide, by decide, pd_X6_best⟩ ⟨Nat.le_of_ble_eq_true rfl, Nat.le_of_ble_eq_true rfl⟩ ⟨Nat.zero_le _, Nat.zero_le _⟩ (Nat.le_of_ble_eq_true rfl) dX6_digest_26 rfl hp9 (fun v9 h26 hq9 => ?_)
  obtain ⟨r26, rfl, hw⟩ := hq9
  refine aw_i2l (pc := 29) C dX6_digest_29  ?_
  refine aw_callS (pc := 30) (as := [vL r20, vL (Int64.ofInt r26)]) C (fun As hA => met_X6_mix G l As r20 (Int64.ofInt r26) _ _ hA hw) tw444 tw445 tw1 tw446 ⟨rfl, rfl⟩ ⟨by decide, by decide, pd_X6_mix⟩ ⟨Nat.le_of_ble_eq_true rfl, Nat.le_of_ble_eq_true rfl⟩ ⟨Nat.zero_le _, Nat.zero_le _⟩ (Nat.le_of_ble_eq_true rfl) dX6_digest_30 rfl (fun v9 h30 hq9 => ?_)
  obtain ⟨r30, rfl, hw⟩ := hq9
  refine aw_lstore_n (pc := 33) C dX6_digest_33 rfl (by rw [hml]; decide) ?_
  refine aw_lload_n (pc := 34) C dX6_digest_34 rfl rfl ?_
  refine aw_aload_n (pc := 35) C dX6_digest_35 rfl rfl ?_
  obtain ⟨hp9, hw⟩ := hw
  refine aw_callV (pc := 36) (as := []) C ci6 (fun As hA => met_X6_likeness G l As a0 _ _ hA hw) tw528 tw407 tw408 tw1 tw409 ⟨rfl, rfl⟩ ⟨rfl, by decide, by decide, pd_X6_likeness⟩ ⟨Nat.le_of_ble_eq_true rfl, Nat.le_of_ble_eq_true rfl⟩ ⟨Nat.zero_le _, Nat.zero_le _⟩ (Nat.le_of_ble_eq_true rfl) dX6_digest_36 rfl hp9 (fun v9 h36 hq9 => ?_)
  obtain ⟨r36, rfl, hw⟩ := hq9
  refine aw_callS (pc := 39) (as := [vD r36]) C (fun As hA => met_X6_bits G l As r36 _ _ hA hw) tw529 tw530 tw1 tw531 ⟨rfl, rfl⟩ ⟨by decide, by decide, pd_X6_bits⟩ ⟨Nat.le_of_ble_eq_true rfl, Nat.le_of_ble_eq_true rfl⟩ ⟨Nat.zero_le _, Nat.zero_le _⟩ (Nat.le_of_ble_eq_true rfl) dX6_digest_39 rfl (fun v9 h39 hq9 => ?_)
  obtain ⟨r39, rfl, hw⟩ := hq9
  refine aw_callS (pc := 42) (as := [vL r30, vL r39]) C (fun As hA => met_X6_mix G l As r30 r39 _ _ hA hw) tw444 tw445 tw1 tw446 ⟨rfl, rfl⟩ ⟨by decide, by decide, pd_X6_mix⟩ ⟨Nat.le_of_ble_eq_true rfl, Nat.le_of_ble_eq_true rfl⟩ ⟨Nat.zero_le _, Nat.zero_le _⟩ (Nat.le_of_ble_eq_true rfl) dX6_digest_42 rfl (fun v9 h42 hq9 => ?_)
  obtain ⟨r42, rfl, hw⟩ := hq9
  refine aw_lstore_n (pc := 45) C dX6_digest_45 rfl (by rw [hml]; decide) ?_
  refine aw_lload_n (pc := 46) C dX6_digest_46 rfl rfl ?_
  refine aw_aload_n (pc := 47) C dX6_digest_47 rfl rfl ?_
  obtain ⟨hp9, b48, hb9, hw⟩ := hw
  refine aw_getR (pc := 48) C (ci := 6) (k := 5) ci6 (by decide) tw228 dX6_digest_48 rfl hp9 hb9 ?_
  obtain ⟨hp9, hw⟩ := hw
  refine aw_getI (pc := 51) C (ci := 0) (k := 2) ci0 (by decide) tw215 dX6_digest_51 rfl hp9 ?_
  refine aw_i2l (pc := 54) C dX6_digest_54  ?_
  refine aw_callS (pc := 55) (as := [vL r42, vL (Int64.ofInt (hfI h42 b48 2))]) C (fun As hA => met_X6_mix G l As r42 (Int64.ofInt (hfI h42 b48 2)) _ _ hA hw) tw444 tw445 tw1 tw446 ⟨rfl, rfl⟩ ⟨by decide, by decide, pd_X6_mix⟩ ⟨Nat.le_of_ble_eq_true rfl, Nat.le_of_ble_eq_true rfl⟩ ⟨Nat.zero_le _, Nat.zero_le _⟩ (Nat.le_of_ble_eq_true rfl) dX6_digest_55 rfl (fun v9 h55 hq9 => ?_)
  obtain ⟨r55, rfl, hw⟩ := hq9
  refine aw_lstore_n (pc := 58) C dX6_digest_58 rfl (by rw [hml]; decide) ?_
  refine aw_iconst (pc := 59) C dX6_digest_59 (i := (0 : Int)) (by decide) ?_
  refine aw_istore_n (pc := 60) C dX6_digest_60 rfl (by rw [hml]; decide) ?_
  obtain ⟨I_61, ⟨n9, hi9⟩, hst9⟩ := hw
  have L_61 : ∀ (n_61 : Nat) (x1_61 : Int64) (x3_61 : Int) (h_61 : AH), I_61 n_61 x1_61 x3_61 h_61 → AW G p l e ({ frames := 7, cells := 0, slots := 0, locals := 162 } : Room) s m args below meth c 0 0 (MQ below (QG G (oL Q)) args s 0 0 (frA G)) 61 (eOf [(0, vR a0), (1, vL x1_61), (3, vI x3_61)]) [] h_61 := by
    intro n_61
    induction n_61 using Nat.strongRecOn with
    | _ n_61 ih_61 =>
    intro x1_61 x3_61 h_61 hi9
    have hw := hst9 n_61 x1_61 x3_61 h_61 hi9
    refine aw_iload_n (pc := 61) C dX6_digest_61 rfl rfl ?_
    refine aw_aload_n (pc := 62) C dX6_digest_62 rfl rfl ?_
    obtain ⟨hp9, b63, hb9, hw⟩ := hw
    refine aw_getR (pc := 63) C (ci := 6) (k := 5) ci6 (by decide) tw228 dX6_digest_63 rfl hp9 hb9 ?_
    obtain ⟨hp9, hw⟩ := hw
    refine aw_getI (pc := 66) C (ci := 0) (k := 2) ci0 (by decide) tw215 dX6_digest_66 rfl hp9 ?_
    refine aw_icmp_ge (pc := 69) (tgt := 93) C dX6_digest_69 (by decide) (fun hc9 => ?_) (fun hc9 => ?_)
    · have hw := hw.1 hc9
      refine aw_lload_n (pc := 93) C dX6_digest_93 rfl rfl ?_
      exact aw_lret (pc := 94) C hr dX6_digest_94 ⟨Nat.le_of_ble_eq_true rfl, Nat.le_of_ble_eq_true rfl⟩ ⟨_, rfl, hw⟩
    · have hw := hw.2 hc9
      refine aw_lload_n (pc := 72) C dX6_digest_72 rfl rfl ?_
      refine aw_aload_n (pc := 73) C dX6_digest_73 rfl rfl ?_
      obtain ⟨hp9, b74, hb9, hw⟩ := hw
      refine aw_getR (pc := 74) C (ci := 6) (k := 5) ci6 (by decide) tw228 dX6_digest_74 rfl hp9 hb9 ?_
      obtain ⟨hp9, b77, hb9, hw⟩ := hw
      refine aw_getR (pc := 77) C (ci := 0) (k := 0) ci0 (by decide) tw211 dX6_digest_77 rfl hp9 hb9 ?_
      refine aw_iload_n (pc := 80) C dX6_digest_80 rfl rfl ?_
      obtain ⟨⟨k9, hp9⟩, hw⟩ := hw
      refine aw_iald (pc := 81) C dX6_digest_81 hp9 ?_
      refine aw_i2l (pc := 82) C dX6_digest_82  ?_
      refine aw_callS (pc := 83) (as := [vL x1_61, vL (Int64.ofInt (haI h_61 b77 x3_61))]) C (fun As hA => met_X6_mix G l As x1_61 (Int64.ofInt (haI h_61 b77 x3_61)) _ _ hA hw) tw444 tw445 tw1 tw446 ⟨rfl, rfl⟩ ⟨by decide, by decide, pd_X6_mix⟩ ⟨Nat.le_of_ble_eq_true rfl, Nat.le_of_ble_eq_true rfl⟩ ⟨Nat.zero_le _, Nat.zero_le _⟩ (Nat.le_of_ble_eq_true rfl) dX6_digest_83 rfl (fun v9 h83 hq9 => ?_)
      obtain ⟨r83, rfl, hw⟩ := hq9
      refine aw_lstore_n (pc := 86) C dX6_digest_86 rfl (by rw [hml]; decide) ?_
      obtain ⟨hp9, hw⟩ := hw
      refine aw_iincN (pc := 87) C dX6_digest_87 (k := 1) (by decide) rfl (by rw [hml]; decide) hp9 (fun x3_87 e9 => ?_)
      have hw := hw x3_87 e9
      refine aw_goto (pc := 90) (tgt := 61) C dX6_digest_90 (by decide) ?_
      obtain ⟨m9, hm9, hw⟩ := hw
      refine aw_sub [(0, vR a0), (1, vL r83), (3, vI x3_87)] ⟨rfl, rfl, rfl, trivial⟩ ?_
      exact ih_61 m9 hm9 _ _ _ hw
  refine aw_sub [(0, vR a0), (1, vL r55), (3, vI (0 : Int))] ⟨rfl, rfl, rfl, trivial⟩ ?_
  exact L_61 n9 _ _ _ hi9
