/-! THE METHODS, BY PROGRAM (wip/whole/gen.py): what each means (w_..), and its contract (met_..) -/
theorem dX6_init_0 : decode cX6_init 0 = .ok (.aload_n 0, 1) := by decide +kernel
theorem dX6_init_1 : decode cX6_init 1 = .ok (.invokespecial 3, 3) := by decide +kernel
theorem dX6_init_4 : decode cX6_init 4 = .ok (.aload_n 0, 1) := by decide +kernel
theorem dX6_init_5 : decode cX6_init 5 = .ok (.new 9, 3) := by decide +kernel
theorem dX6_init_8 : decode cX6_init 8 = .ok (.dup, 1) := by decide +kernel
theorem dX6_init_9 : decode cX6_init 9 = .ok (.invokespecial 11, 3) := by decide +kernel
theorem dX6_init_12 : decode cX6_init 12 = .ok (.putfield 12, 3) := by decide +kernel
theorem dX6_init_15 : decode cX6_init 15 = .ok (.aload_n 0, 1) := by decide +kernel
theorem dX6_init_16 : decode cX6_init 16 = .ok (.new 16, 3) := by decide +kernel
theorem dX6_init_19 : decode cX6_init 19 = .ok (.dup, 1) := by decide +kernel
theorem dX6_init_20 : decode cX6_init 20 = .ok (.aload_n 0, 1) := by decide +kernel
theorem dX6_init_21 : decode cX6_init 21 = .ok (.getfield 12, 3) := by decide +kernel
theorem dX6_init_24 : decode cX6_init 24 = .ok (.invokespecial 18, 3) := by decide +kernel
theorem dX6_init_27 : decode cX6_init 27 = .ok (.putfield 21, 3) := by decide +kernel
theorem dX6_init_30 : decode cX6_init 30 = .ok (.aload_n 0, 1) := by decide +kernel
theorem dX6_init_31 : decode cX6_init 31 = .ok (.new 9, 3) := by decide +kernel
theorem dX6_init_34 : decode cX6_init 34 = .ok (.dup, 1) := by decide +kernel
theorem dX6_init_35 : decode cX6_init 35 = .ok (.invokespecial 11, 3) := by decide +kernel
theorem dX6_init_38 : decode cX6_init 38 = .ok (.putfield 25, 3) := by decide +kernel
theorem dX6_init_41 : decode cX6_init 41 = .ok (.aload_n 0, 1) := by decide +kernel
theorem dX6_init_42 : decode cX6_init 42 = .ok (.new 16, 3) := by decide +kernel
theorem dX6_init_45 : decode cX6_init 45 = .ok (.dup, 1) := by decide +kernel
theorem dX6_init_46 : decode cX6_init 46 = .ok (.aload_n 0, 1) := by decide +kernel
theorem dX6_init_47 : decode cX6_init 47 = .ok (.getfield 25, 3) := by decide +kernel
theorem dX6_init_50 : decode cX6_init 50 = .ok (.invokespecial 18, 3) := by decide +kernel
theorem dX6_init_53 : decode cX6_init 53 = .ok (.putfield 28, 3) := by decide +kernel
theorem dX6_init_56 : decode cX6_init 56 = .ok (.aload_n 0, 1) := by decide +kernel
theorem dX6_init_57 : decode cX6_init 57 = .ok (.bipush 6, 2) := by decide +kernel
theorem dX6_init_59 : decode cX6_init 59 = .ok (.anewarray 9, 3) := by decide +kernel
theorem dX6_init_62 : decode cX6_init 62 = .ok (.putfield 31, 3) := by decide +kernel
theorem dX6_init_65 : decode cX6_init 65 = .ok (.aload_n 0, 1) := by decide +kernel
theorem dX6_init_66 : decode cX6_init 66 = .ok (.new 35, 3) := by decide +kernel
theorem dX6_init_69 : decode cX6_init 69 = .ok (.dup, 1) := by decide +kernel
theorem dX6_init_70 : decode cX6_init 70 = .ok (.invokespecial 37, 3) := by decide +kernel
theorem dX6_init_73 : decode cX6_init 73 = .ok (.putfield 38, 3) := by decide +kernel
theorem dX6_init_76 : decode cX6_init 76 = .ok (.aload_n 0, 1) := by decide +kernel
theorem dX6_init_77 : decode cX6_init 77 = .ok (.iconst 0, 1) := by decide +kernel
theorem dX6_init_78 : decode cX6_init 78 = .ok (.putfield 42, 3) := by decide +kernel
theorem dX6_init_81 : decode cX6_init 81 = .ok (.aload_n 0, 1) := by decide +kernel
theorem dX6_init_82 : decode cX6_init 82 = .ok (.iconst 1, 1) := by decide +kernel
theorem dX6_init_83 : decode cX6_init 83 = .ok (.putfield 46, 3) := by decide +kernel
theorem dX6_init_86 : decode cX6_init 86 = .ok (.iconst 0, 1) := by decide +kernel
theorem dX6_init_87 : decode cX6_init 87 = .ok (.istore_n 1, 1) := by decide +kernel
theorem dX6_init_88 : decode cX6_init 88 = .ok (.iload_n 1, 1) := by decide +kernel
theorem dX6_init_89 : decode cX6_init 89 = .ok (.bipush 6, 2) := by decide +kernel
theorem dX6_init_91 : decode cX6_init 91 = .ok (.if_icmp .ge 22, 3) := by decide +kernel
theorem dX6_init_94 : decode cX6_init 94 = .ok (.aload_n 0, 1) := by decide +kernel
theorem dX6_init_95 : decode cX6_init 95 = .ok (.getfield 31, 3) := by decide +kernel
theorem dX6_init_98 : decode cX6_init 98 = .ok (.iload_n 1, 1) := by decide +kernel
theorem dX6_init_99 : decode cX6_init 99 = .ok (.new 9, 3) := by decide +kernel
theorem dX6_init_102 : decode cX6_init 102 = .ok (.dup, 1) := by decide +kernel
theorem dX6_init_103 : decode cX6_init 103 = .ok (.invokespecial 11, 3) := by decide +kernel
theorem dX6_init_106 : decode cX6_init 106 = .ok (.aastore, 1) := by decide +kernel
theorem dX6_init_107 : decode cX6_init 107 = .ok (.iinc 1 1, 3) := by decide +kernel
theorem dX6_init_110 : decode cX6_init 110 = .ok (.goto (-22), 3) := by decide +kernel
theorem dX6_init_113 : decode cX6_init 113 = .ok (.return_, 1) := by decide +kernel
theorem pd_X6_init : (parseMethodDescriptor yX6_init.desc).map (fun d => d.parameters.length) = some 0 := by decide +kernel
def w_X6_init (zz : Nat → Nat) (a0 : Nat) (h : AH) (Q : AH → Prop) : Prop := ∀ h5 : AH, h5 = nOb h 4 → w_X4_init zz (hn h) h5 (fun  (h9 : AH) => okP h9 a0 6 ∧ ∀ h12 : AH, h12 = sfR h9 a0 0 (some (hn h)) → ∀ h16 : AH, h16 = nOb h12 1 → okA h16 a0 6 ∧ ∃ b21 : Nat, hfR h16 a0 0 = some b21 ∧ w_X1_init zz (hn h12) b21 h16 (fun  (h24 : AH) => okP h24 a0 6 ∧ ∀ h27 : AH, h27 = sfR h24 a0 1 (some (hn h12)) → ∀ h31 : AH, h31 = nOb h27 4 → w_X4_init zz (hn h27) h31 (fun  (h35 : AH) => okP h35 a0 6 ∧ ∀ h38 : AH, h38 = sfR h35 a0 2 (some (hn h27)) → ∀ h42 : AH, h42 = nOb h38 1 → okA h42 a0 6 ∧ ∃ b47 : Nat, hfR h42 a0 2 = some b47 ∧ w_X1_init zz (hn h38) b47 h42 (fun  (h50 : AH) => okP h50 a0 6 ∧ ∀ h53 : AH, h53 = sfR h50 a0 3 (some (hn h38)) → ∀ h59 : AH, h59 = nAR h53 6 → okP h59 a0 6 ∧ ∀ h62 : AH, h62 = sfR h59 a0 4 (some (hn h53)) → ∀ h66 : AH, h66 = nOb h62 0 → w_X0_init zz (hn h62) h66 (fun  (h70 : AH) => okP h70 a0 6 ∧ ∀ h73 : AH, h73 = sfR h70 a0 5 (some (hn h62)) → okP h73 a0 6 ∧ ∀ h78 : AH, h78 = sfI h73 a0 6 (0 : Int) → okP h78 a0 6 ∧ ((1 : Int) = 0 ∨ (1 : Int) = 1) ∧ ∀ h83 : AH, h83 = sfI h78 a0 7 (1 : Int) → ∃ I_88 : Nat → Int → AH → Prop, (∃ n, n ≤ 7 ∧ I_88 n (0 : Int) h83) ∧ ∀ (n_88 : Nat) (x1_88 : Int) (h_88 : AH), I_88 n_88 x1_88 h_88 → ((((6 : Int) ≤ x1_88) → Q h_88) ∧ ((¬ ((6 : Int) ≤ x1_88)) → okA h_88 a0 6 ∧ ∃ b95 : Nat, hfR h_88 a0 4 = some b95 ∧ ∀ h99 : AH, h99 = nOb h_88 4 → w_X4_init zz (hn h_88) h99 (fun  (h103 : AH) => okU h103 b95 x1_88 ∧ okA h103 (hn h_88) 4 ∧ ∀ h106 : AH, h106 = saR h103 b95 (u1 (haR h103 b95) x1_88 (some (hn h_88))) → inR (x1_88 + 1) ∧ ∀ x1_107 : Int, x1_107 = (x1_88 + 1) → ∃ m, m < n_88 ∧ I_88 m x1_107 h106))))))))
set_option maxRecDepth 100000 in
set_option maxHeartbeats 4000000 in
theorem met_X6_init (G : GG) (l : Launch) : ∀ (As : List Value) (a0 : Nat) (h : AH) (Q : AH → Prop), As.map ab = List.map some ([vR a0] : List AV) → w_X6_init G.2.2 a0 h Q → Met l yX6_init (.code yX6_init cX6_init 2 none :: xTb) ({ frames := 3, cells := 128, slots := 23333, locals := 63 } : Room) (PcA G As h) (QG G (oV Q)) 128 23333 (frA G) := by
  intro As a0 h Q hA hw
  refine met_of hA (by decide) (Nat.le_of_ble_eq_true rfl) (fun p e s m args below meth c C hml hr hnm => ?_)
  unfold w_X6_init at hw
  refine aw_aload_n (pc := 0) C dX6_init_0 rfl rfl ?_
  refine aw_objInit (pc := 1) C tw22 tw23 tw24 ⟨Nat.le_of_ble_eq_true rfl, Nat.le_of_ble_eq_true rfl⟩ (Nat.le_of_ble_eq_true rfl) dX6_init_1 ?_
  refine aw_aload_n (pc := 4) C dX6_init_4 rfl rfl ?_
  refine aw_new (pc := 5) C ci4 tw25 tw26 tw2 (by decide) dX6_init_5 (by show _ ≤ (128 : Nat); omega) (by show _ ≤ (23333 : Nat); omega) (aw_nmH (fun h5 e9 => ?_))
  have hw := hw h5 e9
  refine aw_dup (pc := 8) C dX6_init_8 rfl ?_
  refine aw_callI (pc := 9) (as := []) C (fun As hA => met_X4_init G l As (hn h) _ _ hA hw) tw27 tw28 tw2 tw29 ⟨rfl, rfl⟩ rfl ⟨by decide, by decide, pd_X4_init⟩ ⟨Nat.le_of_ble_eq_true rfl, Nat.le_of_ble_eq_true rfl⟩ ⟨(by show _ ≤ (128 : Nat); omega), (by show _ ≤ (23333 : Nat); omega)⟩ (Nat.le_of_ble_eq_true rfl) dX6_init_9 rfl (fun v9 h9 hq9 => ?_)
  obtain ⟨rfl, hw⟩ := hq9
  obtain ⟨hp9, hw⟩ := hw
  refine aw_putR (pc := 12) C (ci := 6) (k := 0) ci6 (by decide) tw218 (Or.inr ⟨rfl, hnm, rfl⟩) dX6_init_12 rfl hp9 (aw_nmH (fun h12 e9 => ?_))
  have hw := hw h12 e9
  refine aw_aload_n (pc := 15) C dX6_init_15 rfl rfl ?_
  refine aw_new (pc := 16) C ci1 tw77 tw78 tw6 (by decide) dX6_init_16 (by show _ ≤ (128 : Nat); omega) (by show _ ≤ (23333 : Nat); omega) (aw_nmH (fun h16 e9 => ?_))
  have hw := hw h16 e9
  refine aw_dup (pc := 19) C dX6_init_19 rfl ?_
  refine aw_aload_n (pc := 20) C dX6_init_20 rfl rfl ?_
  obtain ⟨hp9, b21, hb9, hw⟩ := hw
  refine aw_getR (pc := 21) C (ci := 6) (k := 0) ci6 (by decide) tw218 dX6_init_21 rfl hp9 hb9 ?_
  refine aw_callI (pc := 24) (as := [vR b21]) C (fun As hA => met_X1_init G l As (hn h12) b21 _ _ hA hw) tw79 tw80 tw6 tw81 ⟨rfl, rfl⟩ rfl ⟨by decide, by decide, pd_X1_init⟩ ⟨Nat.le_of_ble_eq_true rfl, Nat.le_of_ble_eq_true rfl⟩ ⟨(by show _ ≤ (128 : Nat); omega), (by show _ ≤ (23333 : Nat); omega)⟩ (Nat.le_of_ble_eq_true rfl) dX6_init_24 rfl (fun v9 h24 hq9 => ?_)
  obtain ⟨rfl, hw⟩ := hq9
  obtain ⟨hp9, hw⟩ := hw
  refine aw_putR (pc := 27) C (ci := 6) (k := 1) ci6 (by decide) tw219 (Or.inr ⟨rfl, hnm, rfl⟩) dX6_init_27 rfl hp9 (aw_nmH (fun h27 e9 => ?_))
  have hw := hw h27 e9
  refine aw_aload_n (pc := 30) C dX6_init_30 rfl rfl ?_
  refine aw_new (pc := 31) C ci4 tw25 tw26 tw2 (by decide) dX6_init_31 (by show _ ≤ (128 : Nat); omega) (by show _ ≤ (23333 : Nat); omega) (aw_nmH (fun h31 e9 => ?_))
  have hw := hw h31 e9
  refine aw_dup (pc := 34) C dX6_init_34 rfl ?_
  refine aw_callI (pc := 35) (as := []) C (fun As hA => met_X4_init G l As (hn h27) _ _ hA hw) tw27 tw28 tw2 tw29 ⟨rfl, rfl⟩ rfl ⟨by decide, by decide, pd_X4_init⟩ ⟨Nat.le_of_ble_eq_true rfl, Nat.le_of_ble_eq_true rfl⟩ ⟨(by show _ ≤ (128 : Nat); omega), (by show _ ≤ (23333 : Nat); omega)⟩ (Nat.le_of_ble_eq_true rfl) dX6_init_35 rfl (fun v9 h35 hq9 => ?_)
  obtain ⟨rfl, hw⟩ := hq9
  obtain ⟨hp9, hw⟩ := hw
  refine aw_putR (pc := 38) C (ci := 6) (k := 2) ci6 (by decide) tw220 (Or.inr ⟨rfl, hnm, rfl⟩) dX6_init_38 rfl hp9 (aw_nmH (fun h38 e9 => ?_))
  have hw := hw h38 e9
  refine aw_aload_n (pc := 41) C dX6_init_41 rfl rfl ?_
  refine aw_new (pc := 42) C ci1 tw77 tw78 tw6 (by decide) dX6_init_42 (by show _ ≤ (128 : Nat); omega) (by show _ ≤ (23333 : Nat); omega) (aw_nmH (fun h42 e9 => ?_))
  have hw := hw h42 e9
  refine aw_dup (pc := 45) C dX6_init_45 rfl ?_
  refine aw_aload_n (pc := 46) C dX6_init_46 rfl rfl ?_
  obtain ⟨hp9, b47, hb9, hw⟩ := hw
  refine aw_getR (pc := 47) C (ci := 6) (k := 2) ci6 (by decide) tw220 dX6_init_47 rfl hp9 hb9 ?_
  refine aw_callI (pc := 50) (as := [vR b47]) C (fun As hA => met_X1_init G l As (hn h38) b47 _ _ hA hw) tw79 tw80 tw6 tw81 ⟨rfl, rfl⟩ rfl ⟨by decide, by decide, pd_X1_init⟩ ⟨Nat.le_of_ble_eq_true rfl, Nat.le_of_ble_eq_true rfl⟩ ⟨(by show _ ≤ (128 : Nat); omega), (by show _ ≤ (23333 : Nat); omega)⟩ (Nat.le_of_ble_eq_true rfl) dX6_init_50 rfl (fun v9 h50 hq9 => ?_)
  obtain ⟨rfl, hw⟩ := hq9
  obtain ⟨hp9, hw⟩ := hw
  refine aw_putR (pc := 53) C (ci := 6) (k := 3) ci6 (by decide) tw221 (Or.inr ⟨rfl, hnm, rfl⟩) dX6_init_53 rfl hp9 (aw_nmH (fun h53 e9 => ?_))
  have hw := hw h53 e9
  refine aw_aload_n (pc := 56) C dX6_init_56 rfl rfl ?_
  refine aw_bipush (pc := 57) C dX6_init_57 (i := (6 : Int)) (by decide) ?_
  refine aw_newR (pc := 59) (n := 6) C tw25 C.2.2.2.2.2.2.2.2.2.2.2.2 dX6_init_59 (Nat.le_of_ble_eq_true rfl) (by show _ ≤ (128 : Nat); omega) (by show _ ≤ (23333 : Nat); omega) (aw_nmH (fun h59 e9 => ?_))
  have hw := hw h59 e9
  obtain ⟨hp9, hw⟩ := hw
  refine aw_putR (pc := 62) C (ci := 6) (k := 4) ci6 (by decide) tw222 (Or.inr ⟨rfl, hnm, rfl⟩) dX6_init_62 rfl hp9 (aw_nmH (fun h62 e9 => ?_))
  have hw := hw h62 e9
  refine aw_aload_n (pc := 65) C dX6_init_65 rfl rfl ?_
  refine aw_new (pc := 66) C ci0 tw199 tw200 tw9 (by decide) dX6_init_66 (by show _ ≤ (128 : Nat); omega) (by show _ ≤ (23333 : Nat); omega) (aw_nmH (fun h66 e9 => ?_))
  have hw := hw h66 e9
  refine aw_dup (pc := 69) C dX6_init_69 rfl ?_
  refine aw_callI (pc := 70) (as := []) C (fun As hA => met_X0_init G l As (hn h62) _ _ hA hw) tw201 tw202 tw9 tw203 ⟨rfl, rfl⟩ rfl ⟨by decide, by decide, pd_X0_init⟩ ⟨Nat.le_of_ble_eq_true rfl, Nat.le_of_ble_eq_true rfl⟩ ⟨(by show _ ≤ (128 : Nat); omega), (by show _ ≤ (23333 : Nat); omega)⟩ (Nat.le_of_ble_eq_true rfl) dX6_init_70 rfl (fun v9 h70 hq9 => ?_)
  obtain ⟨rfl, hw⟩ := hq9
  obtain ⟨hp9, hw⟩ := hw
  refine aw_putR (pc := 73) C (ci := 6) (k := 5) ci6 (by decide) tw223 (Or.inr ⟨rfl, hnm, rfl⟩) dX6_init_73 rfl hp9 (aw_nmH (fun h73 e9 => ?_))
  have hw := hw h73 e9
  refine aw_aload_n (pc := 76) C dX6_init_76 rfl rfl ?_
  refine aw_iconst (pc := 77) C dX6_init_77 (i := (0 : Int)) (by decide) ?_
  obtain ⟨hp9, hw⟩ := hw
  refine aw_putI (pc := 78) C (ci := 6) (k := 6) ci6 (by decide) tw224 (Or.inl rfl) dX6_init_78 rfl hp9 (aw_nmH (fun h78 e9 => ?_))
  have hw := hw h78 e9
  refine aw_aload_n (pc := 81) C dX6_init_81 rfl rfl ?_
  refine aw_iconst (pc := 82) C dX6_init_82 (i := (1 : Int)) (by decide) ?_
  obtain ⟨hp9, hz9, hw⟩ := hw
  refine aw_putZ (pc := 83) C (ci := 6) (k := 7) ci6 (by decide) tw225 (Or.inl rfl) dX6_init_83 rfl hp9 hz9 (aw_nmH (fun h83 e9 => ?_))
  have hw := hw h83 e9
  refine aw_iconst (pc := 86) C dX6_init_86 (i := (0 : Int)) (by decide) ?_
  refine aw_istore_n (pc := 87) C dX6_init_87 rfl (by rw [hml]; decide) ?_
  obtain ⟨I_88, ⟨n9, hn9, hi9⟩, hst9⟩ := hw
  have L_88 : ∀ (n_88 : Nat) (x1_88 : Int) (h_88 : AH) (bc9 bs9 : Nat), I_88 n_88 x1_88 h_88 → bc9 + 8 * n_88 + 8 ≤ 128 → bs9 + 257 * n_88 + 257 ≤ 23333 → AW G p l e ({ frames := 3, cells := 128, slots := 23333, locals := 63 } : Room) s m args below meth c bc9 bs9 (MQ below (QG G (oV Q)) args s 128 23333 (frA G)) 88 (eOf [(0, vR a0), (1, vI x1_88)]) [] h_88 := by
    intro n_88
    induction n_88 using Nat.strongRecOn with
    | _ n_88 ih_88 =>
    intro x1_88 h_88 bc9 bs9 hi9 hb9 hs9
    have hw := hst9 n_88 x1_88 h_88 hi9
    refine aw_iload_n (pc := 88) C dX6_init_88 rfl rfl ?_
    refine aw_bipush (pc := 89) C dX6_init_89 (i := (6 : Int)) (by decide) ?_
    refine aw_icmp_ge (pc := 91) (tgt := 113) C dX6_init_91 (by decide) (fun hc9 => ?_) (fun hc9 => ?_)
    · have hw := hw.1 hc9
      exact aw_vret (pc := 113) C hr dX6_init_113 ⟨by omega, by omega⟩ ⟨rfl, hw⟩
    · have hw := hw.2 hc9
      refine aw_aload_n (pc := 94) C dX6_init_94 rfl rfl ?_
      obtain ⟨hp9, b95, hb9, hw⟩ := hw
      refine aw_getR (pc := 95) C (ci := 6) (k := 4) ci6 (by decide) tw222 dX6_init_95 rfl hp9 hb9 ?_
      refine aw_iload_n (pc := 98) C dX6_init_98 rfl rfl ?_
      refine aw_new (pc := 99) C ci4 tw25 tw26 tw2 (by decide) dX6_init_99 (by show _ ≤ (128 : Nat); omega) (by show _ ≤ (23333 : Nat); omega) (aw_nmH (fun h99 e9 => ?_))
      have hw := hw h99 e9
      refine aw_dup (pc := 102) C dX6_init_102 rfl ?_
      refine aw_callI (pc := 103) (as := []) C (fun As hA => met_X4_init G l As (hn h_88) _ _ hA hw) tw27 tw28 tw2 tw29 ⟨rfl, rfl⟩ rfl ⟨by decide, by decide, pd_X4_init⟩ ⟨Nat.le_of_ble_eq_true rfl, Nat.le_of_ble_eq_true rfl⟩ ⟨(by show _ ≤ (128 : Nat); omega), (by show _ ≤ (23333 : Nat); omega)⟩ (Nat.le_of_ble_eq_true rfl) dX6_init_103 rfl (fun v9 h103 hq9 => ?_)
      obtain ⟨rfl, hw⟩ := hq9
      obtain ⟨⟨k9, hp9⟩, hz9, hw⟩ := hw
      refine aw_aast (pc := 106) C dX6_init_106 hp9 hz9 (aw_nmH (fun h106 e9 => ?_))
      have hw := hw h106 e9
      obtain ⟨hp9, hw⟩ := hw
      refine aw_iincN (pc := 107) C dX6_init_107 (k := 1) (by decide) rfl (by rw [hml]; decide) hp9 (fun x1_107 e9 => ?_)
      have hw := hw x1_107 e9
      refine aw_goto (pc := 110) (tgt := 88) C dX6_init_110 (by decide) ?_
      obtain ⟨m9, hm9, hw⟩ := hw
      refine aw_sub [(0, vR a0), (1, vI x1_107)] ⟨rfl, rfl, trivial⟩ ?_
      exact ih_88 m9 hm9 _ _ _ _ hw (by omega) (by omega)
  refine aw_sub [(0, vR a0), (1, vI (0 : Int))] ⟨rfl, rfl, trivial⟩ ?_
  exact L_88 n9 _ _ _ _ hi9 (by omega) (by omega)
theorem dX6_save_0 : decode cX6_save 0 = .ok (.aload_n 0, 1) := by decide +kernel
theorem dX6_save_1 : decode cX6_save 1 = .ok (.getfield 42, 3) := by decide +kernel
theorem dX6_save_4 : decode cX6_save 4 = .ok (.bipush 6, 2) := by decide +kernel
theorem dX6_save_6 : decode cX6_save 6 = .ok (.if_icmp .lt 50, 3) := by decide +kernel
theorem dX6_save_9 : decode cX6_save 9 = .ok (.aload_n 0, 1) := by decide +kernel
theorem dX6_save_10 : decode cX6_save 10 = .ok (.getfield 31, 3) := by decide +kernel
theorem dX6_save_13 : decode cX6_save 13 = .ok (.iconst 0, 1) := by decide +kernel
theorem dX6_save_14 : decode cX6_save 14 = .ok (.aaload, 1) := by decide +kernel
theorem dX6_save_15 : decode cX6_save 15 = .ok (.astore_n 1, 1) := by decide +kernel
theorem dX6_save_16 : decode cX6_save 16 = .ok (.iconst 1, 1) := by decide +kernel
theorem dX6_save_17 : decode cX6_save 17 = .ok (.istore_n 2, 1) := by decide +kernel
theorem dX6_save_18 : decode cX6_save 18 = .ok (.iload_n 2, 1) := by decide +kernel
theorem dX6_save_19 : decode cX6_save 19 = .ok (.bipush 6, 2) := by decide +kernel
theorem dX6_save_21 : decode cX6_save 21 = .ok (.if_icmp .ge 23, 3) := by decide +kernel
theorem dX6_save_24 : decode cX6_save 24 = .ok (.aload_n 0, 1) := by decide +kernel
theorem dX6_save_25 : decode cX6_save 25 = .ok (.getfield 31, 3) := by decide +kernel
theorem dX6_save_28 : decode cX6_save 28 = .ok (.iload_n 2, 1) := by decide +kernel
theorem dX6_save_29 : decode cX6_save 29 = .ok (.iconst 1, 1) := by decide +kernel
theorem dX6_save_30 : decode cX6_save 30 = .ok (.isub, 1) := by decide +kernel
theorem dX6_save_31 : decode cX6_save 31 = .ok (.aload_n 0, 1) := by decide +kernel
theorem dX6_save_32 : decode cX6_save 32 = .ok (.getfield 31, 3) := by decide +kernel
theorem dX6_save_35 : decode cX6_save 35 = .ok (.iload_n 2, 1) := by decide +kernel
theorem dX6_save_36 : decode cX6_save 36 = .ok (.aaload, 1) := by decide +kernel
theorem dX6_save_37 : decode cX6_save 37 = .ok (.aastore, 1) := by decide +kernel
theorem dX6_save_38 : decode cX6_save 38 = .ok (.iinc 2 1, 3) := by decide +kernel
theorem dX6_save_41 : decode cX6_save 41 = .ok (.goto (-23), 3) := by decide +kernel
theorem dX6_save_44 : decode cX6_save 44 = .ok (.aload_n 0, 1) := by decide +kernel
theorem dX6_save_45 : decode cX6_save 45 = .ok (.getfield 31, 3) := by decide +kernel
theorem dX6_save_48 : decode cX6_save 48 = .ok (.iconst 5, 1) := by decide +kernel
theorem dX6_save_49 : decode cX6_save 49 = .ok (.aload_n 1, 1) := by decide +kernel
theorem dX6_save_50 : decode cX6_save 50 = .ok (.aastore, 1) := by decide +kernel
theorem dX6_save_51 : decode cX6_save 51 = .ok (.aload_n 0, 1) := by decide +kernel
theorem dX6_save_52 : decode cX6_save 52 = .ok (.iconst 5, 1) := by decide +kernel
theorem dX6_save_53 : decode cX6_save 53 = .ok (.putfield 42, 3) := by decide +kernel
theorem dX6_save_56 : decode cX6_save 56 = .ok (.aload_n 0, 1) := by decide +kernel
theorem dX6_save_57 : decode cX6_save 57 = .ok (.getfield 31, 3) := by decide +kernel
theorem dX6_save_60 : decode cX6_save 60 = .ok (.aload_n 0, 1) := by decide +kernel
theorem dX6_save_61 : decode cX6_save 61 = .ok (.getfield 42, 3) := by decide +kernel
theorem dX6_save_64 : decode cX6_save 64 = .ok (.aaload, 1) := by decide +kernel
theorem dX6_save_65 : decode cX6_save 65 = .ok (.aload_n 0, 1) := by decide +kernel
theorem dX6_save_66 : decode cX6_save 66 = .ok (.getfield 12, 3) := by decide +kernel
theorem dX6_save_69 : decode cX6_save 69 = .ok (.invokevirtual 143, 3) := by decide +kernel
theorem dX6_save_72 : decode cX6_save 72 = .ok (.aload_n 0, 1) := by decide +kernel
theorem dX6_save_73 : decode cX6_save 73 = .ok (.dup, 1) := by decide +kernel
theorem dX6_save_74 : decode cX6_save 74 = .ok (.getfield 42, 3) := by decide +kernel
theorem dX6_save_77 : decode cX6_save 77 = .ok (.iconst 1, 1) := by decide +kernel
theorem dX6_save_78 : decode cX6_save 78 = .ok (.iadd, 1) := by decide +kernel
theorem dX6_save_79 : decode cX6_save 79 = .ok (.putfield 42, 3) := by decide +kernel
theorem dX6_save_82 : decode cX6_save 82 = .ok (.aload_n 0, 1) := by decide +kernel
theorem dX6_save_83 : decode cX6_save 83 = .ok (.iconst 1, 1) := by decide +kernel
theorem dX6_save_84 : decode cX6_save 84 = .ok (.putfield 46, 3) := by decide +kernel
theorem dX6_save_87 : decode cX6_save 87 = .ok (.return_, 1) := by decide +kernel
theorem pd_X6_save : (parseMethodDescriptor yX6_save.desc).map (fun d => d.parameters.length) = some 0 := by decide +kernel
def w_X6_save (zz : Nat → Nat) (a0 : Nat) (h : AH) (Q : AH → Prop) : Prop := okA h a0 6 ∧ jn (fun  (h_56 : AH) => okA h_56 a0 6 ∧ ∃ b57 : Nat, hfR h_56 a0 4 = some b57 ∧ okA h_56 a0 6 ∧ okQ h_56 b57 (hfI h_56 a0 6) ∧ ∃ b64 : Nat, haR h_56 b57 (hfI h_56 a0 6) = some b64 ∧ okA h_56 a0 6 ∧ ∃ b66 : Nat, hfR h_56 a0 0 = some b66 ∧ okA h_56 b64 4 ∧ w_X4_copyFrom zz b64 b66 h_56 (fun  (h69 : AH) => okA h69 a0 6 ∧ inR ((hfI h69 a0 6) + (1 : Int)) ∧ okP h69 a0 6 ∧ ∀ h79 : AH, h79 = sfI h69 a0 6 ((hfI h69 a0 6) + (1 : Int)) → okP h79 a0 6 ∧ ((1 : Int) = 0 ∨ (1 : Int) = 1) ∧ ∀ h84 : AH, h84 = sfI h79 a0 7 (1 : Int) → Q h84)) (fun k_56 : AH → Prop => (((hfI h a0 6) < (6 : Int)) → k_56  h) ∧ ((¬ ((hfI h a0 6) < (6 : Int))) → okA h a0 6 ∧ ∃ b10 : Nat, hfR h a0 4 = some b10 ∧ okQ h b10 (0 : Int) ∧ ∃ b14 : Nat, haR h b10 (0 : Int) = some b14 ∧ ∃ I_18 : Nat → Int → AH → Prop, (∃ n, I_18 n (1 : Int) h) ∧ ∀ (n_18 : Nat) (x2_18 : Int) (h_18 : AH), I_18 n_18 x2_18 h_18 → ((((6 : Int) ≤ x2_18) → okA h_18 a0 6 ∧ ∃ b45 : Nat, hfR h_18 a0 4 = some b45 ∧ okU h_18 b45 (5 : Int) ∧ okA h_18 b14 4 ∧ ∀ h50 : AH, h50 = saR h_18 b45 (u1 (haR h_18 b45) (5 : Int) (some b14)) → okP h50 a0 6 ∧ ∀ h53 : AH, h53 = sfI h50 a0 6 (5 : Int) → k_56  h53) ∧ ((¬ ((6 : Int) ≤ x2_18)) → okA h_18 a0 6 ∧ ∃ b25 : Nat, hfR h_18 a0 4 = some b25 ∧ inR (x2_18 - (1 : Int)) ∧ okA h_18 a0 6 ∧ ∃ b32 : Nat, hfR h_18 a0 4 = some b32 ∧ okQ h_18 b32 x2_18 ∧ ∃ b36 : Nat, haR h_18 b32 x2_18 = some b36 ∧ okU h_18 b25 (x2_18 - (1 : Int)) ∧ okA h_18 b36 4 ∧ ∀ h37 : AH, h37 = saR h_18 b25 (u1 (haR h_18 b25) (x2_18 - (1 : Int)) (some b36)) → inR (x2_18 + 1) ∧ ∀ x2_38 : Int, x2_38 = (x2_18 + 1) → ∃ m, m < n_18 ∧ I_18 m x2_38 h37))))
set_option maxRecDepth 100000 in
set_option maxHeartbeats 4000000 in
theorem met_X6_save (G : GG) (l : Launch) : ∀ (As : List Value) (a0 : Nat) (h : AH) (Q : AH → Prop), As.map ab = List.map some ([vR a0] : List AV) → w_X6_save G.2.2 a0 h Q → Met l yX6_save (.code yX6_save cX6_save 3 none :: xTb) ({ frames := 3, cells := 0, slots := 0, locals := 82 } : Room) (PcA G As h) (QG G (oV Q)) 0 0 (frA G) := by
  intro As a0 h Q hA hw
  refine met_of hA (by decide) (Nat.le_of_ble_eq_true rfl) (fun p e s m args below meth c C hml hr hnm => ?_)
  unfold w_X6_save at hw
  refine aw_aload_n (pc := 0) C dX6_save_0 rfl rfl ?_
  obtain ⟨hp9, hw⟩ := hw
  refine aw_getI (pc := 1) C (ci := 6) (k := 6) ci6 (by decide) tw224 dX6_save_1 rfl hp9 ?_
  refine aw_bipush (pc := 4) C dX6_save_4 (i := (6 : Int)) (by decide) ?_
  obtain ⟨k_56, hk_56, hw⟩ := jn_out hw
  have J_56 : ∀  (h_56 : AH), k_56  h_56 → AW G p l e ({ frames := 3, cells := 0, slots := 0, locals := 82 } : Room) s m args below meth c 0 0 (MQ below (QG G (oV Q)) args s 0 0 (frA G)) 56 (eOf [(0, vR a0)]) [] h_56 := by
    intro  h_56 hw
    rw [hk_56] at hw
    refine aw_aload_n (pc := 56) C dX6_save_56 rfl rfl ?_
    obtain ⟨hp9, b57, hb9, hw⟩ := hw
    refine aw_getR (pc := 57) C (ci := 6) (k := 4) ci6 (by decide) tw222 dX6_save_57 rfl hp9 hb9 ?_
    refine aw_aload_n (pc := 60) C dX6_save_60 rfl rfl ?_
    obtain ⟨hp9, hw⟩ := hw
    refine aw_getI (pc := 61) C (ci := 6) (k := 6) ci6 (by decide) tw224 dX6_save_61 rfl hp9 ?_
    obtain ⟨⟨k9, hp9⟩, b64, hb9, hw⟩ := hw
    refine aw_aald (pc := 64) C dX6_save_64 hp9 hb9 ?_
    refine aw_aload_n (pc := 65) C dX6_save_65 rfl rfl ?_
    obtain ⟨hp9, b66, hb9, hw⟩ := hw
    refine aw_getR (pc := 66) C (ci := 6) (k := 0) ci6 (by decide) tw218 dX6_save_66 rfl hp9 hb9 ?_
    obtain ⟨hp9, hw⟩ := hw
    refine aw_callV (pc := 69) (as := [vR b66]) C ci4 (fun As hA => met_X4_copyFrom G l As b64 b66 _ _ hA hw) tw690 tw691 tw692 tw2 tw693 ⟨rfl, rfl⟩ ⟨rfl, by decide, by decide, pd_X4_copyFrom⟩ ⟨Nat.le_of_ble_eq_true rfl, Nat.le_of_ble_eq_true rfl⟩ ⟨Nat.zero_le _, Nat.zero_le _⟩ (Nat.le_of_ble_eq_true rfl) dX6_save_69 rfl hp9 (fun v9 h69 hq9 => ?_)
    obtain ⟨rfl, hw⟩ := hq9
    refine aw_aload_n (pc := 72) C dX6_save_72 rfl rfl ?_
    refine aw_dup (pc := 73) C dX6_save_73 rfl ?_
    obtain ⟨hp9, hw⟩ := hw
    refine aw_getI (pc := 74) C (ci := 6) (k := 6) ci6 (by decide) tw224 dX6_save_74 rfl hp9 ?_
    refine aw_iconst (pc := 77) C dX6_save_77 (i := (1 : Int)) (by decide) ?_
    obtain ⟨hp9, hw⟩ := hw
    refine aw_iadd (pc := 78) C dX6_save_78 hp9 ?_
    obtain ⟨hp9, hw⟩ := hw
    refine aw_putI (pc := 79) C (ci := 6) (k := 6) ci6 (by decide) tw224 (Or.inl rfl) dX6_save_79 rfl hp9 (aw_nmH (fun h79 e9 => ?_))
    have hw := hw h79 e9
    refine aw_aload_n (pc := 82) C dX6_save_82 rfl rfl ?_
    refine aw_iconst (pc := 83) C dX6_save_83 (i := (1 : Int)) (by decide) ?_
    obtain ⟨hp9, hz9, hw⟩ := hw
    refine aw_putZ (pc := 84) C (ci := 6) (k := 7) ci6 (by decide) tw225 (Or.inl rfl) dX6_save_84 rfl hp9 hz9 (aw_nmH (fun h84 e9 => ?_))
    have hw := hw h84 e9
    exact aw_vret (pc := 87) C hr dX6_save_87 ⟨Nat.le_of_ble_eq_true rfl, Nat.le_of_ble_eq_true rfl⟩ ⟨rfl, hw⟩
  refine aw_icmp_lt (pc := 6) (tgt := 56) C dX6_save_6 (by decide) (fun hc9 => ?_) (fun hc9 => ?_)
  · have hw := hw.1 hc9
    refine aw_sub [(0, vR a0)] ⟨rfl, trivial⟩ ?_
    exact J_56  _ hw
  · have hw := hw.2 hc9
    refine aw_aload_n (pc := 9) C dX6_save_9 rfl rfl ?_
    obtain ⟨hp9, b10, hb9, hw⟩ := hw
    refine aw_getR (pc := 10) C (ci := 6) (k := 4) ci6 (by decide) tw222 dX6_save_10 rfl hp9 hb9 ?_
    refine aw_iconst (pc := 13) C dX6_save_13 (i := (0 : Int)) (by decide) ?_
    obtain ⟨⟨k9, hp9⟩, b14, hb9, hw⟩ := hw
    refine aw_aald (pc := 14) C dX6_save_14 hp9 hb9 ?_
    refine aw_astore_n (pc := 15) C dX6_save_15 rfl (by rw [hml]; decide) ?_
    refine aw_iconst (pc := 16) C dX6_save_16 (i := (1 : Int)) (by decide) ?_
    refine aw_istore_n (pc := 17) C dX6_save_17 rfl (by rw [hml]; decide) ?_
    obtain ⟨I_18, ⟨n9, hi9⟩, hst9⟩ := hw
    have L_18 : ∀ (n_18 : Nat) (x2_18 : Int) (h_18 : AH), I_18 n_18 x2_18 h_18 → AW G p l e ({ frames := 3, cells := 0, slots := 0, locals := 82 } : Room) s m args below meth c 0 0 (MQ below (QG G (oV Q)) args s 0 0 (frA G)) 18 (eOf [(0, vR a0), (1, vR b14), (2, vI x2_18)]) [] h_18 := by
      intro n_18
      induction n_18 using Nat.strongRecOn with
      | _ n_18 ih_18 =>
      intro x2_18 h_18 hi9
      have hw := hst9 n_18 x2_18 h_18 hi9
      refine aw_iload_n (pc := 18) C dX6_save_18 rfl rfl ?_
      refine aw_bipush (pc := 19) C dX6_save_19 (i := (6 : Int)) (by decide) ?_
      refine aw_icmp_ge (pc := 21) (tgt := 44) C dX6_save_21 (by decide) (fun hc9 => ?_) (fun hc9 => ?_)
      · have hw := hw.1 hc9
        refine aw_aload_n (pc := 44) C dX6_save_44 rfl rfl ?_
        obtain ⟨hp9, b45, hb9, hw⟩ := hw
        refine aw_getR (pc := 45) C (ci := 6) (k := 4) ci6 (by decide) tw222 dX6_save_45 rfl hp9 hb9 ?_
        refine aw_iconst (pc := 48) C dX6_save_48 (i := (5 : Int)) (by decide) ?_
        refine aw_aload_n (pc := 49) C dX6_save_49 rfl rfl ?_
        obtain ⟨⟨k9, hp9⟩, hz9, hw⟩ := hw
        refine aw_aast (pc := 50) C dX6_save_50 hp9 hz9 (aw_nmH (fun h50 e9 => ?_))
        have hw := hw h50 e9
        refine aw_aload_n (pc := 51) C dX6_save_51 rfl rfl ?_
        refine aw_iconst (pc := 52) C dX6_save_52 (i := (5 : Int)) (by decide) ?_
        obtain ⟨hp9, hw⟩ := hw
        refine aw_putI (pc := 53) C (ci := 6) (k := 6) ci6 (by decide) tw224 (Or.inl rfl) dX6_save_53 rfl hp9 (aw_nmH (fun h53 e9 => ?_))
        have hw := hw h53 e9
        refine aw_sub [(0, vR a0)] ⟨rfl, trivial⟩ ?_
        exact J_56  _ hw
      · have hw := hw.2 hc9
        refine aw_aload_n (pc := 24) C dX6_save_24 rfl rfl ?_
        obtain ⟨hp9, b25, hb9, hw⟩ := hw
        refine aw_getR (pc := 25) C (ci := 6) (k := 4) ci6 (by decide) tw222 dX6_save_25 rfl hp9 hb9 ?_
        refine aw_iload_n (pc := 28) C dX6_save_28 rfl rfl ?_
        refine aw_iconst (pc := 29) C dX6_save_29 (i := (1 : Int)) (by decide) ?_
        obtain ⟨hp9, hw⟩ := hw
        refine aw_isub (pc := 30) C dX6_save_30 hp9 ?_
        refine aw_aload_n (pc := 31) C dX6_save_31 rfl rfl ?_
        obtain ⟨hp9, b32, hb9, hw⟩ := hw
        refine aw_getR (pc := 32) C (ci := 6) (k := 4) ci6 (by decide) tw222 dX6_save_32 rfl hp9 hb9 ?_
        refine aw_iload_n (pc := 35) C dX6_save_35 rfl rfl ?_
        obtain ⟨⟨k9, hp9⟩, b36, hb9, hw⟩ := hw
        refine aw_aald (pc := 36) C dX6_save_36 hp9 hb9 ?_
        obtain ⟨⟨k9, hp9⟩, hz9, hw⟩ := hw
        refine aw_aast (pc := 37) C dX6_save_37 hp9 hz9 (aw_nmH (fun h37 e9 => ?_))
        have hw := hw h37 e9
        obtain ⟨hp9, hw⟩ := hw
        refine aw_iincN (pc := 38) C dX6_save_38 (k := 1) (by decide) rfl (by rw [hml]; decide) hp9 (fun x2_38 e9 => ?_)
        have hw := hw x2_38 e9
        refine aw_goto (pc := 41) (tgt := 18) C dX6_save_41 (by decide) ?_
        obtain ⟨m9, hm9, hw⟩ := hw
        refine aw_sub [(0, vR a0), (1, vR b14), (2, vI x2_38)] ⟨rfl, rfl, rfl, trivial⟩ ?_
        exact ih_18 m9 hm9 _ _ hw
    refine aw_sub [(0, vR a0), (1, vR b14), (2, vI (1 : Int))] ⟨rfl, rfl, rfl, trivial⟩ ?_
    exact L_18 n9 _ _ hi9
theorem dX6_refresh_0 : decode cX6_refresh 0 = .ok (.aload_n 0, 1) := by decide +kernel
theorem dX6_refresh_1 : decode cX6_refresh 1 = .ok (.getfield 46, 3) := by decide +kernel
theorem dX6_refresh_4 : decode cX6_refresh 4 = .ok (.ifCond .eq 15, 3) := by decide +kernel
theorem dX6_refresh_7 : decode cX6_refresh 7 = .ok (.aload_n 0, 1) := by decide +kernel
theorem dX6_refresh_8 : decode cX6_refresh 8 = .ok (.getfield 21, 3) := by decide +kernel
theorem dX6_refresh_11 : decode cX6_refresh 11 = .ok (.invokevirtual 196, 3) := by decide +kernel
theorem dX6_refresh_14 : decode cX6_refresh 14 = .ok (.aload_n 0, 1) := by decide +kernel
theorem dX6_refresh_15 : decode cX6_refresh 15 = .ok (.iconst 0, 1) := by decide +kernel
theorem dX6_refresh_16 : decode cX6_refresh 16 = .ok (.putfield 46, 3) := by decide +kernel
theorem dX6_refresh_19 : decode cX6_refresh 19 = .ok (.return_, 1) := by decide +kernel
theorem pd_X6_refresh : (parseMethodDescriptor yX6_refresh.desc).map (fun d => d.parameters.length) = some 0 := by decide +kernel
def w_X6_refresh (zz : Nat → Nat) (a0 : Nat) (h : AH) (Q : AH → Prop) : Prop := okA h a0 6 ∧ jn (fun  (h_19 : AH) => Q h_19) (fun k_19 : AH → Prop => (((hfI h a0 7) = 0) → k_19  h) ∧ ((¬ ((hfI h a0 7) = 0)) → okA h a0 6 ∧ ∃ b8 : Nat, hfR h a0 1 = some b8 ∧ okA h b8 1 ∧ w_X1_work zz b8 h (fun  (h11 : AH) => okP h11 a0 6 ∧ ((0 : Int) = 0 ∨ (0 : Int) = 1) ∧ ∀ h16 : AH, h16 = sfI h11 a0 7 (0 : Int) → k_19  h16)))
set_option maxRecDepth 100000 in
set_option maxHeartbeats 4000000 in
theorem met_X6_refresh (G : GG) (l : Launch) : ∀ (As : List Value) (a0 : Nat) (h : AH) (Q : AH → Prop), As.map ab = List.map some ([vR a0] : List AV) → w_X6_refresh G.2.2 a0 h Q → Met l yX6_refresh (.code yX6_refresh cX6_refresh 1 none :: xTb) ({ frames := 5, cells := 0, slots := 0, locals := 116 } : Room) (PcA G As h) (QG G (oV Q)) 0 0 (frA G) := by
  intro As a0 h Q hA hw
  refine met_of hA (by decide) (Nat.le_of_ble_eq_true rfl) (fun p e s m args below meth c C hml hr hnm => ?_)
  unfold w_X6_refresh at hw
  refine aw_aload_n (pc := 0) C dX6_refresh_0 rfl rfl ?_
  obtain ⟨hp9, hw⟩ := hw
  refine aw_getZ (pc := 1) C (ci := 6) (k := 7) ci6 (by decide) tw225 dX6_refresh_1 rfl hp9 ?_
  obtain ⟨k_19, hk_19, hw⟩ := jn_out hw
  have J_19 : ∀  (h_19 : AH), k_19  h_19 → AW G p l e ({ frames := 5, cells := 0, slots := 0, locals := 116 } : Room) s m args below meth c 0 0 (MQ below (QG G (oV Q)) args s 0 0 (frA G)) 19 (eOf []) [] h_19 := by
    intro  h_19 hw
    rw [hk_19] at hw
    exact aw_vret (pc := 19) C hr dX6_refresh_19 ⟨Nat.le_of_ble_eq_true rfl, Nat.le_of_ble_eq_true rfl⟩ ⟨rfl, hw⟩
  refine aw_if_eq (pc := 4) (tgt := 19) C dX6_refresh_4 (by decide) (fun hc9 => ?_) (fun hc9 => ?_)
  · have hw := hw.1 hc9
    refine aw_sub [] trivial ?_
    exact J_19  _ hw
  · have hw := hw.2 hc9
    refine aw_aload_n (pc := 7) C dX6_refresh_7 rfl rfl ?_
    obtain ⟨hp9, b8, hb9, hw⟩ := hw
    refine aw_getR (pc := 8) C (ci := 6) (k := 1) ci6 (by decide) tw219 dX6_refresh_8 rfl hp9 hb9 ?_
    obtain ⟨hp9, hw⟩ := hw
    refine aw_callV (pc := 11) (as := []) C ci1 (fun As hA => met_X1_work G l As b8 _ _ hA hw) tw319 tw320 tw321 tw6 tw322 ⟨rfl, rfl⟩ ⟨rfl, by decide, by decide, pd_X1_work⟩ ⟨Nat.le_of_ble_eq_true rfl, Nat.le_of_ble_eq_true rfl⟩ ⟨Nat.zero_le _, Nat.zero_le _⟩ (Nat.le_of_ble_eq_true rfl) dX6_refresh_11 rfl hp9 (fun v9 h11 hq9 => ?_)
    obtain ⟨rfl, hw⟩ := hq9
    refine aw_aload_n (pc := 14) C dX6_refresh_14 rfl rfl ?_
    refine aw_iconst (pc := 15) C dX6_refresh_15 (i := (0 : Int)) (by decide) ?_
    obtain ⟨hp9, hz9, hw⟩ := hw
    refine aw_putZ (pc := 16) C (ci := 6) (k := 7) ci6 (by decide) tw225 (Or.inl rfl) dX6_refresh_16 rfl hp9 hz9 (aw_nmH (fun h16 e9 => ?_))
    have hw := hw h16 e9
    refine aw_sub [] trivial ?_
    exact J_19  _ hw
theorem dX6_swap_0 : decode cX6_swap 0 = .ok (.aload_n 0, 1) := by decide +kernel
theorem dX6_swap_1 : decode cX6_swap 1 = .ok (.invokevirtual 50, 3) := by decide +kernel
theorem dX6_swap_4 : decode cX6_swap 4 = .ok (.aload_n 0, 1) := by decide +kernel
theorem dX6_swap_5 : decode cX6_swap 5 = .ok (.getfield 12, 3) := by decide +kernel
theorem dX6_swap_8 : decode cX6_swap 8 = .ok (.invokevirtual 132, 3) := by decide +kernel
theorem dX6_swap_11 : decode cX6_swap 11 = .ok (.aload_n 0, 1) := by decide +kernel
theorem dX6_swap_12 : decode cX6_swap 12 = .ok (.invokevirtual 135, 3) := by decide +kernel
theorem dX6_swap_15 : decode cX6_swap 15 = .ok (.aload_n 0, 1) := by decide +kernel
theorem dX6_swap_16 : decode cX6_swap 16 = .ok (.getfield 21, 3) := by decide +kernel
theorem dX6_swap_19 : decode cX6_swap 19 = .ok (.invokevirtual 138, 3) := by decide +kernel
theorem dX6_swap_22 : decode cX6_swap 22 = .ok (.ireturn, 1) := by decide +kernel
theorem pd_X6_swap : (parseMethodDescriptor yX6_swap.desc).map (fun d => d.parameters.length) = some 0 := by decide +kernel
def w_X6_swap (zz : Nat → Nat) (a0 : Nat) (h : AH) (Q : Int → AH → Prop) : Prop := okA h a0 6 ∧ w_X6_save zz a0 h (fun  (h1 : AH) => okA h1 a0 6 ∧ ∃ b5 : Nat, hfR h1 a0 0 = some b5 ∧ okA h1 b5 4 ∧ w_X4_exchangeTexts zz b5 h1 (fun  (h8 : AH) => okA h8 a0 6 ∧ w_X6_refresh zz a0 h8 (fun  (h12 : AH) => okA h12 a0 6 ∧ ∃ b16 : Nat, hfR h12 a0 1 = some b16 ∧ okA h12 b16 1 ∧ w_X1_frames zz b16 h12 (fun (r19 : Int) (h19 : AH) => Q r19 h19))))
set_option maxRecDepth 100000 in
set_option maxHeartbeats 4000000 in
theorem met_X6_swap (G : GG) (l : Launch) : ∀ (As : List Value) (a0 : Nat) (h : AH) (Q : Int → AH → Prop), As.map ab = List.map some ([vR a0] : List AV) → w_X6_swap G.2.2 a0 h Q → Met l yX6_swap (.code yX6_swap cX6_swap 1 (some .int) :: xTb) ({ frames := 6, cells := 0, slots := 0, locals := 136 } : Room) (PcA G As h) (QG G (oI Q)) 0 0 (frA G) := by
  intro As a0 h Q hA hw
  refine met_of hA (by decide) (Nat.le_of_ble_eq_true rfl) (fun p e s m args below meth c C hml hr hnm => ?_)
  unfold w_X6_swap at hw
  refine aw_aload_n (pc := 0) C dX6_swap_0 rfl rfl ?_
  obtain ⟨hp9, hw⟩ := hw
  refine aw_callV (pc := 1) (as := []) C ci6 (fun As hA => met_X6_save G l As a0 _ _ hA hw) tw686 tw688 (tbp 29 (n := 8) (by decide +kernel)) tw1 tw689 ⟨rfl, rfl⟩ ⟨rfl, by decide, by decide, pd_X6_save⟩ ⟨Nat.le_of_ble_eq_true rfl, Nat.le_of_ble_eq_true rfl⟩ ⟨Nat.zero_le _, Nat.zero_le _⟩ (Nat.le_of_ble_eq_true rfl) dX6_swap_1 rfl hp9 (fun v9 h1 hq9 => ?_)
  obtain ⟨rfl, hw⟩ := hq9
  refine aw_aload_n (pc := 4) C dX6_swap_4 rfl rfl ?_
  obtain ⟨hp9, b5, hb9, hw⟩ := hw
  refine aw_getR (pc := 5) C (ci := 6) (k := 0) ci6 (by decide) tw218 dX6_swap_5 rfl hp9 hb9 ?_
  obtain ⟨hp9, hw⟩ := hw
  refine aw_callV (pc := 8) (as := []) C ci4 (fun As hA => met_X4_exchangeTexts G l As b5 _ _ hA hw) tw726 tw727 tw728 tw2 tw729 ⟨rfl, rfl⟩ ⟨rfl, by decide, by decide, pd_X4_exchangeTexts⟩ ⟨Nat.le_of_ble_eq_true rfl, Nat.le_of_ble_eq_true rfl⟩ ⟨Nat.zero_le _, Nat.zero_le _⟩ (Nat.le_of_ble_eq_true rfl) dX6_swap_8 rfl hp9 (fun v9 h8 hq9 => ?_)
  obtain ⟨rfl, hw⟩ := hq9
  refine aw_aload_n (pc := 11) C dX6_swap_11 rfl rfl ?_
  obtain ⟨hp9, hw⟩ := hw
  refine aw_callV (pc := 12) (as := []) C ci6 (fun As hA => met_X6_refresh G l As a0 _ _ hA hw) tw315 tw317 (tbp 1 (n := 8) (by decide +kernel)) tw1 tw318 ⟨rfl, rfl⟩ ⟨rfl, by decide, by decide, pd_X6_refresh⟩ ⟨Nat.le_of_ble_eq_true rfl, Nat.le_of_ble_eq_true rfl⟩ ⟨Nat.zero_le _, Nat.zero_le _⟩ (Nat.le_of_ble_eq_true rfl) dX6_swap_12 rfl hp9 (fun v9 h12 hq9 => ?_)
  obtain ⟨rfl, hw⟩ := hq9
  refine aw_aload_n (pc := 15) C dX6_swap_15 rfl rfl ?_
  obtain ⟨hp9, b16, hb9, hw⟩ := hw
  refine aw_getR (pc := 16) C (ci := 6) (k := 1) ci6 (by decide) tw219 dX6_swap_16 rfl hp9 hb9 ?_
  obtain ⟨hp9, hw⟩ := hw
  refine aw_callV (pc := 19) (as := []) C ci1 (fun As hA => met_X1_frames G l As b16 _ _ hA hw) tw485 tw420 tw421 tw6 tw422 ⟨rfl, rfl⟩ ⟨rfl, by decide, by decide, pd_X1_frames⟩ ⟨Nat.le_of_ble_eq_true rfl, Nat.le_of_ble_eq_true rfl⟩ ⟨Nat.zero_le _, Nat.zero_le _⟩ (Nat.le_of_ble_eq_true rfl) dX6_swap_19 rfl hp9 (fun v9 h19 hq9 => ?_)
  obtain ⟨r19, rfl, hw⟩ := hq9
  exact aw_iret (pc := 22) C hr dX6_swap_22 ⟨Nat.le_of_ble_eq_true rfl, Nat.le_of_ble_eq_true rfl⟩ ⟨_, rfl, hw⟩
theorem dX6_clearBuffer_0 : decode cX6_clearBuffer 0 = .ok (.aload_n 0, 1) := by decide +kernel
theorem dX6_clearBuffer_1 : decode cX6_clearBuffer 1 = .ok (.getfield 38, 3) := by decide +kernel
theorem dX6_clearBuffer_4 : decode cX6_clearBuffer 4 = .ok (.getfield 98, 3) := by decide +kernel
theorem dX6_clearBuffer_7 : decode cX6_clearBuffer 7 = .ok (.istore_n 1, 1) := by decide +kernel
theorem dX6_clearBuffer_8 : decode cX6_clearBuffer 8 = .ok (.aload_n 0, 1) := by decide +kernel
theorem dX6_clearBuffer_9 : decode cX6_clearBuffer 9 = .ok (.getfield 38, 3) := by decide +kernel
theorem dX6_clearBuffer_12 : decode cX6_clearBuffer 12 = .ok (.iconst 0, 1) := by decide +kernel
theorem dX6_clearBuffer_13 : decode cX6_clearBuffer 13 = .ok (.putfield 98, 3) := by decide +kernel
theorem dX6_clearBuffer_16 : decode cX6_clearBuffer 16 = .ok (.iload_n 1, 1) := by decide +kernel
theorem dX6_clearBuffer_17 : decode cX6_clearBuffer 17 = .ok (.ireturn, 1) := by decide +kernel
theorem pd_X6_clearBuffer : (parseMethodDescriptor yX6_clearBuffer.desc).map (fun d => d.parameters.length) = some 0 := by decide +kernel
def w_X6_clearBuffer (zz : Nat → Nat) (a0 : Nat) (h : AH) (Q : Int → AH → Prop) : Prop := okA h a0 6 ∧ ∃ b1 : Nat, hfR h a0 5 = some b1 ∧ okA h b1 0 ∧ ∀ x1_7 : Int, x1_7 = (hfI h b1 2) → okA h a0 6 ∧ ∃ b9 : Nat, hfR h a0 5 = some b9 ∧ okP h b9 0 ∧ ∀ h13 : AH, h13 = sfI h b9 2 (0 : Int) → Q x1_7 h13
set_option maxRecDepth 100000 in
set_option maxHeartbeats 4000000 in
theorem met_X6_clearBuffer (G : GG) (l : Launch) : ∀ (As : List Value) (a0 : Nat) (h : AH) (Q : Int → AH → Prop), As.map ab = List.map some ([vR a0] : List AV) → w_X6_clearBuffer G.2.2 a0 h Q → Met l yX6_clearBuffer (.code yX6_clearBuffer cX6_clearBuffer 2 (some .int) :: xTb) ({ frames := 0, cells := 0, slots := 0, locals := 0 } : Room) (PcA G As h) (QG G (oI Q)) 0 0 (frA G) := by
  intro As a0 h Q hA hw
  refine met_of hA (by decide) (Nat.le_of_ble_eq_true rfl) (fun p e s m args below meth c C hml hr hnm => ?_)
  unfold w_X6_clearBuffer at hw
  refine aw_aload_n (pc := 0) C dX6_clearBuffer_0 rfl rfl ?_
  obtain ⟨hp9, b1, hb9, hw⟩ := hw
  refine aw_getR (pc := 1) C (ci := 6) (k := 5) ci6 (by decide) tw223 dX6_clearBuffer_1 rfl hp9 hb9 ?_
  obtain ⟨hp9, hw⟩ := hw
  refine aw_getI (pc := 4) C (ci := 0) (k := 2) ci0 (by decide) tw210 dX6_clearBuffer_4 rfl hp9 ?_
  refine aw_nmI (fun x1_7 e9 => ?_)
  have hw := hw x1_7 e9
  refine aw_istore_n (pc := 7) C dX6_clearBuffer_7 rfl (by rw [hml]; decide) ?_
  refine aw_aload_n (pc := 8) C dX6_clearBuffer_8 rfl rfl ?_
  obtain ⟨hp9, b9, hb9, hw⟩ := hw
  refine aw_getR (pc := 9) C (ci := 6) (k := 5) ci6 (by decide) tw223 dX6_clearBuffer_9 rfl hp9 hb9 ?_
  refine aw_iconst (pc := 12) C dX6_clearBuffer_12 (i := (0 : Int)) (by decide) ?_
  obtain ⟨hp9, hw⟩ := hw
  refine aw_putI (pc := 13) C (ci := 0) (k := 2) ci0 (by decide) tw210 (Or.inl rfl) dX6_clearBuffer_13 rfl hp9 (aw_nmH (fun h13 e9 => ?_))
  have hw := hw h13 e9
  refine aw_iload_n (pc := 16) C dX6_clearBuffer_16 rfl rfl ?_
  exact aw_iret (pc := 17) C hr dX6_clearBuffer_17 ⟨Nat.le_of_ble_eq_true rfl, Nat.le_of_ble_eq_true rfl⟩ ⟨_, rfl, hw⟩
theorem dX6_firstError_0 : decode cX6_firstError 0 = .ok (.aload_n 0, 1) := by decide +kernel
theorem dX6_firstError_1 : decode cX6_firstError 1 = .ok (.getfield 38, 3) := by decide +kernel
theorem dX6_firstError_4 : decode cX6_firstError 4 = .ok (.invokevirtual 94, 3) := by decide +kernel
theorem dX6_firstError_7 : decode cX6_firstError 7 = .ok (.ireturn, 1) := by decide +kernel
theorem pd_X6_firstError : (parseMethodDescriptor yX6_firstError.desc).map (fun d => d.parameters.length) = some 0 := by decide +kernel
def w_X6_firstError (zz : Nat → Nat) (a0 : Nat) (h : AH) (Q : Int → AH → Prop) : Prop := okA h a0 6 ∧ ∃ b1 : Nat, hfR h a0 5 = some b1 ∧ okA h b1 0 ∧ w_X0_read zz b1 h (fun (r4 : Int) (h4 : AH) => Q r4 h4)
set_option maxRecDepth 100000 in
set_option maxHeartbeats 4000000 in
theorem met_X6_firstError (G : GG) (l : Launch) : ∀ (As : List Value) (a0 : Nat) (h : AH) (Q : Int → AH → Prop), As.map ab = List.map some ([vR a0] : List AV) → w_X6_firstError G.2.2 a0 h Q → Met l yX6_firstError (.code yX6_firstError cX6_firstError 1 (some .int) :: xTb) ({ frames := 2, cells := 0, slots := 0, locals := 48 } : Room) (PcA G As h) (QG G (oI Q)) 0 0 (frA G) := by
  intro As a0 h Q hA hw
  refine met_of hA (by decide) (Nat.le_of_ble_eq_true rfl) (fun p e s m args below meth c C hml hr hnm => ?_)
  unfold w_X6_firstError at hw
  refine aw_aload_n (pc := 0) C dX6_firstError_0 rfl rfl ?_
  obtain ⟨hp9, b1, hb9, hw⟩ := hw
  refine aw_getR (pc := 1) C (ci := 6) (k := 5) ci6 (by decide) tw223 dX6_firstError_1 rfl hp9 hb9 ?_
  obtain ⟨hp9, hw⟩ := hw
  refine aw_callV (pc := 4) (as := []) C ci0 (fun As hA => met_X0_read G l As b1 _ _ hA hw) tw672 tw673 tw674 tw9 tw675 ⟨rfl, rfl⟩ ⟨rfl, by decide, by decide, pd_X0_read⟩ ⟨Nat.le_of_ble_eq_true rfl, Nat.le_of_ble_eq_true rfl⟩ ⟨Nat.zero_le _, Nat.zero_le _⟩ (Nat.le_of_ble_eq_true rfl) dX6_firstError_4 rfl hp9 (fun v9 h4 hq9 => ?_)
  obtain ⟨r4, rfl, hw⟩ := hq9
  exact aw_iret (pc := 7) C hr dX6_firstError_7 ⟨Nat.le_of_ble_eq_true rfl, Nat.le_of_ble_eq_true rfl⟩ ⟨_, rfl, hw⟩
theorem dX6_likeness_0 : decode cX6_likeness 0 = .ok (.aload_n 0, 1) := by decide +kernel
theorem dX6_likeness_1 : decode cX6_likeness 1 = .ok (.invokevirtual 135, 3) := by decide +kernel
theorem dX6_likeness_4 : decode cX6_likeness 4 = .ok (.aload_n 0, 1) := by decide +kernel
theorem dX6_likeness_5 : decode cX6_likeness 5 = .ok (.getfield 12, 3) := by decide +kernel
theorem dX6_likeness_8 : decode cX6_likeness 8 = .ok (.iconst 0, 1) := by decide +kernel
theorem dX6_likeness_9 : decode cX6_likeness 9 = .ok (.invokevirtual 53, 3) := by decide +kernel
theorem dX6_likeness_12 : decode cX6_likeness 12 = .ok (.getfield 57, 3) := by decide +kernel
theorem dX6_likeness_15 : decode cX6_likeness 15 = .ok (.aload_n 0, 1) := by decide +kernel
theorem dX6_likeness_16 : decode cX6_likeness 16 = .ok (.getfield 12, 3) := by decide +kernel
theorem dX6_likeness_19 : decode cX6_likeness 19 = .ok (.iconst 1, 1) := by decide +kernel
theorem dX6_likeness_20 : decode cX6_likeness 20 = .ok (.invokevirtual 53, 3) := by decide +kernel
theorem dX6_likeness_23 : decode cX6_likeness 23 = .ok (.getfield 57, 3) := by decide +kernel
theorem dX6_likeness_26 : decode cX6_likeness 26 = .ok (.iadd, 1) := by decide +kernel
theorem dX6_likeness_27 : decode cX6_likeness 27 = .ok (.istore_n 1, 1) := by decide +kernel
theorem dX6_likeness_28 : decode cX6_likeness 28 = .ok (.iload_n 1, 1) := by decide +kernel
theorem dX6_likeness_29 : decode cX6_likeness 29 = .ok (.ifCond .gt 5, 3) := by decide +kernel
theorem dX6_likeness_32 : decode cX6_likeness 32 = .ok (.dconst 1, 1) := by decide +kernel
theorem dX6_likeness_33 : decode cX6_likeness 33 = .ok (.dreturn, 1) := by decide +kernel
theorem dX6_likeness_34 : decode cX6_likeness 34 = .ok (.iconst 2, 1) := by decide +kernel
theorem dX6_likeness_35 : decode cX6_likeness 35 = .ok (.aload_n 0, 1) := by decide +kernel
theorem dX6_likeness_36 : decode cX6_likeness 36 = .ok (.getfield 21, 3) := by decide +kernel
theorem dX6_likeness_39 : decode cX6_likeness 39 = .ok (.getfield 208, 3) := by decide +kernel
theorem dX6_likeness_42 : decode cX6_likeness 42 = .ok (.getfield 212, 3) := by decide +kernel
theorem dX6_likeness_45 : decode cX6_likeness 45 = .ok (.iconst 1, 1) := by decide +kernel
theorem dX6_likeness_46 : decode cX6_likeness 46 = .ok (.iaload, 1) := by decide +kernel
theorem dX6_likeness_47 : decode cX6_likeness 47 = .ok (.imul, 1) := by decide +kernel
theorem dX6_likeness_48 : decode cX6_likeness 48 = .ok (.i2d, 1) := by decide +kernel
theorem dX6_likeness_49 : decode cX6_likeness 49 = .ok (.iload_n 1, 1) := by decide +kernel
theorem dX6_likeness_50 : decode cX6_likeness 50 = .ok (.i2d, 1) := by decide +kernel
theorem dX6_likeness_51 : decode cX6_likeness 51 = .ok (.ddiv, 1) := by decide +kernel
theorem dX6_likeness_52 : decode cX6_likeness 52 = .ok (.dreturn, 1) := by decide +kernel
theorem pd_X6_likeness : (parseMethodDescriptor yX6_likeness.desc).map (fun d => d.parameters.length) = some 0 := by decide +kernel
def w_X6_likeness (zz : Nat → Nat) (a0 : Nat) (h : AH) (Q : UInt64 → AH → Prop) : Prop := okA h a0 6 ∧ w_X6_refresh zz a0 h (fun  (h1 : AH) => okA h1 a0 6 ∧ ∃ b5 : Nat, hfR h1 a0 0 = some b5 ∧ okA h1 b5 4 ∧ w_X4_text zz b5 (0 : Int) h1 (fun (r9 : Nat) (h9 : AH) => okA h9 r9 5 ∧ okA h9 a0 6 ∧ ∃ b16 : Nat, hfR h9 a0 0 = some b16 ∧ okA h9 b16 4 ∧ w_X4_text zz b16 (1 : Int) h9 (fun (r20 : Nat) (h20 : AH) => okA h20 r20 5 ∧ inR ((hfI h9 r9 2) + (hfI h20 r20 2)) ∧ ∀ x1_27 : Int, x1_27 = ((hfI h9 r9 2) + (hfI h20 r20 2)) → ((0 < x1_27) → okA h20 a0 6 ∧ ∃ b36 : Nat, hfR h20 a0 1 = some b36 ∧ okA h20 b36 1 ∧ ∃ b39 : Nat, hfR h20 b36 0 = some b39 ∧ okA h20 b39 3 ∧ ∃ b42 : Nat, hfR h20 b39 4 = some b42 ∧ okI h20 b42 (1 : Int) ∧ inR ((2 : Int) * (haI h20 b42 (1 : Int))) ∧ vf_n64 (FP.ddiv (FP.i2d (Int32.ofInt ((2 : Int) * (haI h20 b42 (1 : Int))))) (FP.i2d (Int32.ofInt x1_27))) ∧ Q (FP.ddiv (FP.i2d (Int32.ofInt ((2 : Int) * (haI h20 b42 (1 : Int))))) (FP.i2d (Int32.ofInt x1_27))) h20) ∧ ((¬ (0 < x1_27)) → Q FP.dconst1 h20))))
set_option maxRecDepth 100000 in
set_option maxHeartbeats 4000000 in
theorem met_X6_likeness (G : GG) (l : Launch) : ∀ (As : List Value) (a0 : Nat) (h : AH) (Q : UInt64 → AH → Prop), As.map ab = List.map some ([vR a0] : List AV) → w_X6_likeness G.2.2 a0 h Q → Met l yX6_likeness (.code yX6_likeness cX6_likeness 2 (some .double) :: xTb) ({ frames := 6, cells := 0, slots := 0, locals := 136 } : Room) (PcA G As h) (QG G (oD Q)) 0 0 (frA G) := by
  intro As a0 h Q hA hw
  refine met_of hA (by decide) (Nat.le_of_ble_eq_true rfl) (fun p e s m args below meth c C hml hr hnm => ?_)
  unfold w_X6_likeness at hw
  refine aw_aload_n (pc := 0) C dX6_likeness_0 rfl rfl ?_
  obtain ⟨hp9, hw⟩ := hw
  refine aw_callV (pc := 1) (as := []) C ci6 (fun As hA => met_X6_refresh G l As a0 _ _ hA hw) tw315 tw317 (tbp 1 (n := 8) (by decide +kernel)) tw1 tw318 ⟨rfl, rfl⟩ ⟨rfl, by decide, by decide, pd_X6_refresh⟩ ⟨Nat.le_of_ble_eq_true rfl, Nat.le_of_ble_eq_true rfl⟩ ⟨Nat.zero_le _, Nat.zero_le _⟩ (Nat.le_of_ble_eq_true rfl) dX6_likeness_1 rfl hp9 (fun v9 h1 hq9 => ?_)
  obtain ⟨rfl, hw⟩ := hq9
  refine aw_aload_n (pc := 4) C dX6_likeness_4 rfl rfl ?_
  obtain ⟨hp9, b5, hb9, hw⟩ := hw
  refine aw_getR (pc := 5) C (ci := 6) (k := 0) ci6 (by decide) tw218 dX6_likeness_5 rfl hp9 hb9 ?_
  refine aw_iconst (pc := 8) C dX6_likeness_8 (i := (0 : Int)) (by decide) ?_
  obtain ⟨hp9, hw⟩ := hw
  refine aw_callV (pc := 9) (as := [vI (0 : Int)]) C ci4 (fun As hA => met_X4_text G l As b5 (0 : Int) _ _ hA hw) tw552 tw333 tw334 tw2 tw335 ⟨rfl, rfl⟩ ⟨rfl, by decide, by decide, pd_X4_text⟩ ⟨Nat.le_of_ble_eq_true rfl, Nat.le_of_ble_eq_true rfl⟩ ⟨Nat.zero_le _, Nat.zero_le _⟩ (Nat.le_of_ble_eq_true rfl) dX6_likeness_9 rfl hp9 (fun v9 h9 hq9 => ?_)
  obtain ⟨r9, rfl, hw⟩ := hq9
  obtain ⟨hp9, hw⟩ := hw
  refine aw_getI (pc := 12) C (ci := 5) (k := 2) ci5 (by decide) tw49 dX6_likeness_12 rfl hp9 ?_
  refine aw_aload_n (pc := 15) C dX6_likeness_15 rfl rfl ?_
  obtain ⟨hp9, b16, hb9, hw⟩ := hw
  refine aw_getR (pc := 16) C (ci := 6) (k := 0) ci6 (by decide) tw218 dX6_likeness_16 rfl hp9 hb9 ?_
  refine aw_iconst (pc := 19) C dX6_likeness_19 (i := (1 : Int)) (by decide) ?_
  obtain ⟨hp9, hw⟩ := hw
  refine aw_callV (pc := 20) (as := [vI (1 : Int)]) C ci4 (fun As hA => met_X4_text G l As b16 (1 : Int) _ _ hA hw) tw552 tw333 tw334 tw2 tw335 ⟨rfl, rfl⟩ ⟨rfl, by decide, by decide, pd_X4_text⟩ ⟨Nat.le_of_ble_eq_true rfl, Nat.le_of_ble_eq_true rfl⟩ ⟨Nat.zero_le _, Nat.zero_le _⟩ (Nat.le_of_ble_eq_true rfl) dX6_likeness_20 rfl hp9 (fun v9 h20 hq9 => ?_)
  obtain ⟨r20, rfl, hw⟩ := hq9
  obtain ⟨hp9, hw⟩ := hw
  refine aw_getI (pc := 23) C (ci := 5) (k := 2) ci5 (by decide) tw49 dX6_likeness_23 rfl hp9 ?_
  obtain ⟨hp9, hw⟩ := hw
  refine aw_iadd (pc := 26) C dX6_likeness_26 hp9 ?_
  refine aw_nmI (fun x1_27 e9 => ?_)
  have hw := hw x1_27 e9
  refine aw_istore_n (pc := 27) C dX6_likeness_27 rfl (by rw [hml]; decide) ?_
  refine aw_iload_n (pc := 28) C dX6_likeness_28 rfl rfl ?_
  refine aw_if_gt (pc := 29) (tgt := 34) C dX6_likeness_29 (by decide) (fun hc9 => ?_) (fun hc9 => ?_)
  · have hw := hw.1 hc9
    refine aw_iconst (pc := 34) C dX6_likeness_34 (i := (2 : Int)) (by decide) ?_
    refine aw_aload_n (pc := 35) C dX6_likeness_35 rfl rfl ?_
    obtain ⟨hp9, b36, hb9, hw⟩ := hw
    refine aw_getR (pc := 36) C (ci := 6) (k := 1) ci6 (by decide) tw219 dX6_likeness_36 rfl hp9 hb9 ?_
    obtain ⟨hp9, b39, hb9, hw⟩ := hw
    refine aw_getR (pc := 39) C (ci := 1) (k := 0) ci1 (by decide) tw170 dX6_likeness_39 rfl hp9 hb9 ?_
    obtain ⟨hp9, b42, hb9, hw⟩ := hw
    refine aw_getR (pc := 42) C (ci := 3) (k := 4) ci3 (by decide) tw101 dX6_likeness_42 rfl hp9 hb9 ?_
    refine aw_iconst (pc := 45) C dX6_likeness_45 (i := (1 : Int)) (by decide) ?_
    obtain ⟨⟨k9, hp9⟩, hw⟩ := hw
    refine aw_iald (pc := 46) C dX6_likeness_46 hp9 ?_
    obtain ⟨hp9, hw⟩ := hw
    refine aw_imul (pc := 47) C dX6_likeness_47 hp9 ?_
    refine aw_i2d (pc := 48) C dX6_likeness_48  ?_
    refine aw_iload_n (pc := 49) C dX6_likeness_49 rfl rfl ?_
    refine aw_i2d (pc := 50) C dX6_likeness_50  ?_
    obtain ⟨hp9, hw⟩ := hw
    refine aw_ddiv (pc := 51) C dX6_likeness_51 hp9 ?_
    exact aw_dret (pc := 52) C hr dX6_likeness_52 ⟨Nat.le_of_ble_eq_true rfl, Nat.le_of_ble_eq_true rfl⟩ ⟨_, rfl, hw⟩
  · have hw := hw.2 hc9
    refine aw_dconst1 (pc := 32) C dX6_likeness_32  ?_
    exact aw_dret (pc := 33) C hr dX6_likeness_33 ⟨Nat.le_of_ble_eq_true rfl, Nat.le_of_ble_eq_true rfl⟩ ⟨_, rfl, hw⟩
