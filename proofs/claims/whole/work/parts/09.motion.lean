/-! THE METHODS, BY PROGRAM (wip/whole/gen.py): what each means (w_..), and its contract (met_..) -/
theorem dX2_init_0 : decode cX2_init 0 = .ok (.aload_n 0, 1) := by decide +kernel
theorem dX2_init_1 : decode cX2_init 1 = .ok (.invokespecial 3, 3) := by decide +kernel
theorem dX2_init_4 : decode cX2_init 4 = .ok (.aload_n 0, 1) := by decide +kernel
theorem dX2_init_5 : decode cX2_init 5 = .ok (.bipush 40, 2) := by decide +kernel
theorem dX2_init_7 : decode cX2_init 7 = .ok (.newarray .int, 2) := by decide +kernel
theorem dX2_init_9 : decode cX2_init 9 = .ok (.putfield 9, 3) := by decide +kernel
theorem dX2_init_12 : decode cX2_init 12 = .ok (.aload_n 0, 1) := by decide +kernel
theorem dX2_init_13 : decode cX2_init 13 = .ok (.bipush 40, 2) := by decide +kernel
theorem dX2_init_15 : decode cX2_init 15 = .ok (.newarray .int, 2) := by decide +kernel
theorem dX2_init_17 : decode cX2_init 17 = .ok (.putfield 15, 3) := by decide +kernel
theorem dX2_init_20 : decode cX2_init 20 = .ok (.aload_n 0, 1) := by decide +kernel
theorem dX2_init_21 : decode cX2_init 21 = .ok (.bipush 40, 2) := by decide +kernel
theorem dX2_init_23 : decode cX2_init 23 = .ok (.newarray .int, 2) := by decide +kernel
theorem dX2_init_25 : decode cX2_init 25 = .ok (.putfield 18, 3) := by decide +kernel
theorem dX2_init_28 : decode cX2_init 28 = .ok (.aload_n 0, 1) := by decide +kernel
theorem dX2_init_29 : decode cX2_init 29 = .ok (.iconst 0, 1) := by decide +kernel
theorem dX2_init_30 : decode cX2_init 30 = .ok (.putfield 21, 3) := by decide +kernel
theorem dX2_init_33 : decode cX2_init 33 = .ok (.aload_n 0, 1) := by decide +kernel
theorem dX2_init_34 : decode cX2_init 34 = .ok (.iconst 0, 1) := by decide +kernel
theorem dX2_init_35 : decode cX2_init 35 = .ok (.putfield 25, 3) := by decide +kernel
theorem dX2_init_38 : decode cX2_init 38 = .ok (.aload_n 0, 1) := by decide +kernel
theorem dX2_init_39 : decode cX2_init 39 = .ok (.bipush 40, 2) := by decide +kernel
theorem dX2_init_41 : decode cX2_init 41 = .ok (.newarray .int, 2) := by decide +kernel
theorem dX2_init_43 : decode cX2_init 43 = .ok (.putfield 28, 3) := by decide +kernel
theorem dX2_init_46 : decode cX2_init 46 = .ok (.aload_n 0, 1) := by decide +kernel
theorem dX2_init_47 : decode cX2_init 47 = .ok (.bipush 40, 2) := by decide +kernel
theorem dX2_init_49 : decode cX2_init 49 = .ok (.newarray .int, 2) := by decide +kernel
theorem dX2_init_51 : decode cX2_init 51 = .ok (.putfield 31, 3) := by decide +kernel
theorem dX2_init_54 : decode cX2_init 54 = .ok (.aload_n 0, 1) := by decide +kernel
theorem dX2_init_55 : decode cX2_init 55 = .ok (.bipush 80, 2) := by decide +kernel
theorem dX2_init_57 : decode cX2_init 57 = .ok (.newarray .int, 2) := by decide +kernel
theorem dX2_init_59 : decode cX2_init 59 = .ok (.putfield 34, 3) := by decide +kernel
theorem dX2_init_62 : decode cX2_init 62 = .ok (.aload_n 0, 1) := by decide +kernel
theorem dX2_init_63 : decode cX2_init 63 = .ok (.sipush 191, 3) := by decide +kernel
theorem dX2_init_66 : decode cX2_init 66 = .ok (.newarray .int, 2) := by decide +kernel
theorem dX2_init_68 : decode cX2_init 68 = .ok (.putfield 37, 3) := by decide +kernel
theorem dX2_init_71 : decode cX2_init 71 = .ok (.aload_n 0, 1) := by decide +kernel
theorem dX2_init_72 : decode cX2_init 72 = .ok (.sipush 7640, 3) := by decide +kernel
theorem dX2_init_75 : decode cX2_init 75 = .ok (.newarray .int, 2) := by decide +kernel
theorem dX2_init_77 : decode cX2_init 77 = .ok (.putfield 40, 3) := by decide +kernel
theorem dX2_init_80 : decode cX2_init 80 = .ok (.aload_n 0, 1) := by decide +kernel
theorem dX2_init_81 : decode cX2_init 81 = .ok (.iconst 0, 1) := by decide +kernel
theorem dX2_init_82 : decode cX2_init 82 = .ok (.putfield 43, 3) := by decide +kernel
theorem dX2_init_85 : decode cX2_init 85 = .ok (.aload_n 0, 1) := by decide +kernel
theorem dX2_init_86 : decode cX2_init 86 = .ok (.aload_n 1, 1) := by decide +kernel
theorem dX2_init_87 : decode cX2_init 87 = .ok (.putfield 46, 3) := by decide +kernel
theorem dX2_init_90 : decode cX2_init 90 = .ok (.aload_n 0, 1) := by decide +kernel
theorem dX2_init_91 : decode cX2_init 91 = .ok (.aload_n 2, 1) := by decide +kernel
theorem dX2_init_92 : decode cX2_init 92 = .ok (.putfield 50, 3) := by decide +kernel
theorem dX2_init_95 : decode cX2_init 95 = .ok (.return_, 1) := by decide +kernel
theorem pd_X2_init : (parseMethodDescriptor yX2_init.desc).map (fun d => d.parameters.length) = some 2 := by decide +kernel
def w_X2_init (zz : Nat → Nat) (a0 : Nat) (a1 : Nat) (a2 : Nat) (h : AH) (Q : AH → Prop) : Prop := ∀ h7 : AH, h7 = nAI h 40 → okP h7 a0 2 ∧ ∀ h9 : AH, h9 = sfR h7 a0 0 (some (hn h)) → ∀ h15 : AH, h15 = nAI h9 40 → okP h15 a0 2 ∧ ∀ h17 : AH, h17 = sfR h15 a0 1 (some (hn h9)) → ∀ h23 : AH, h23 = nAI h17 40 → okP h23 a0 2 ∧ ∀ h25 : AH, h25 = sfR h23 a0 2 (some (hn h17)) → okP h25 a0 2 ∧ ∀ h30 : AH, h30 = sfI h25 a0 3 (0 : Int) → okP h30 a0 2 ∧ ∀ h35 : AH, h35 = sfI h30 a0 4 (0 : Int) → ∀ h41 : AH, h41 = nAI h35 40 → okP h41 a0 2 ∧ ∀ h43 : AH, h43 = sfR h41 a0 7 (some (hn h35)) → ∀ h49 : AH, h49 = nAI h43 40 → okP h49 a0 2 ∧ ∀ h51 : AH, h51 = sfR h49 a0 8 (some (hn h43)) → ∀ h57 : AH, h57 = nAI h51 80 → okP h57 a0 2 ∧ ∀ h59 : AH, h59 = sfR h57 a0 9 (some (hn h51)) → ∀ h66 : AH, h66 = nAI h59 191 → okP h66 a0 2 ∧ ∀ h68 : AH, h68 = sfR h66 a0 10 (some (hn h59)) → ∀ h75 : AH, h75 = nAI h68 7640 → okP h75 a0 2 ∧ ∀ h77 : AH, h77 = sfR h75 a0 11 (some (hn h68)) → okP h77 a0 2 ∧ ∀ h82 : AH, h82 = sfI h77 a0 12 (0 : Int) → okP h82 a0 2 ∧ ∀ h87 : AH, h87 = sfR h82 a0 5 (some a1) → okP h87 a0 2 ∧ ∀ h92 : AH, h92 = sfR h87 a0 6 (some a2) → Q h92
set_option maxRecDepth 100000 in
set_option maxHeartbeats 4000000 in
theorem met_X2_init (G : GG) (l : Launch) : ∀ (As : List Value) (a0 : Nat) (a1 : Nat) (a2 : Nat) (h : AH) (Q : AH → Prop), As.map ab = List.map some ([vR a0, vR a1, vR a2] : List AV) → w_X2_init G.2.2 a0 a1 a2 h Q → Met l yX2_init (.code yX2_init cX2_init 3 none :: xTb) ({ frames := 1, cells := 8, slots := 8111, locals := 20 } : Room) (PcA G As h) (QG G (oV Q)) 8 8111 (frA G) := by
  intro As a0 a1 a2 h Q hA hw
  refine met_of hA (by decide) (Nat.le_of_ble_eq_true rfl) (fun p e s m args below meth c C hml hr hnm => ?_)
  unfold w_X2_init at hw
  refine aw_aload_n (pc := 0) C dX2_init_0 rfl rfl ?_
  refine aw_objInit (pc := 1) C tw127 tw26 tw27 ⟨Nat.le_of_ble_eq_true rfl, Nat.le_of_ble_eq_true rfl⟩ (Nat.le_of_ble_eq_true rfl) dX2_init_1 ?_
  refine aw_aload_n (pc := 4) C dX2_init_4 rfl rfl ?_
  refine aw_bipush (pc := 5) C dX2_init_5 (i := (40 : Int)) (by decide) ?_
  refine aw_newI (pc := 7) (n := 40) C tw60 dX2_init_7 (Nat.le_of_ble_eq_true rfl) (Nat.le_of_ble_eq_true rfl) (Nat.le_of_ble_eq_true rfl) (aw_nmH (fun h7 e9 => ?_))
  have hw := hw h7 e9
  obtain ⟨hp9, hw⟩ := hw
  refine aw_putR (pc := 9) C (ci := 2) (k := 0) ci2 (by decide) tw128 (Or.inr ⟨rfl, hnm, rfl⟩) dX2_init_9 rfl hp9 (aw_nmH (fun h9 e9 => ?_))
  have hw := hw h9 e9
  refine aw_aload_n (pc := 12) C dX2_init_12 rfl rfl ?_
  refine aw_bipush (pc := 13) C dX2_init_13 (i := (40 : Int)) (by decide) ?_
  refine aw_newI (pc := 15) (n := 40) C tw60 dX2_init_15 (Nat.le_of_ble_eq_true rfl) (Nat.le_of_ble_eq_true rfl) (Nat.le_of_ble_eq_true rfl) (aw_nmH (fun h15 e9 => ?_))
  have hw := hw h15 e9
  obtain ⟨hp9, hw⟩ := hw
  refine aw_putR (pc := 17) C (ci := 2) (k := 1) ci2 (by decide) tw129 (Or.inr ⟨rfl, hnm, rfl⟩) dX2_init_17 rfl hp9 (aw_nmH (fun h17 e9 => ?_))
  have hw := hw h17 e9
  refine aw_aload_n (pc := 20) C dX2_init_20 rfl rfl ?_
  refine aw_bipush (pc := 21) C dX2_init_21 (i := (40 : Int)) (by decide) ?_
  refine aw_newI (pc := 23) (n := 40) C tw60 dX2_init_23 (Nat.le_of_ble_eq_true rfl) (Nat.le_of_ble_eq_true rfl) (Nat.le_of_ble_eq_true rfl) (aw_nmH (fun h23 e9 => ?_))
  have hw := hw h23 e9
  obtain ⟨hp9, hw⟩ := hw
  refine aw_putR (pc := 25) C (ci := 2) (k := 2) ci2 (by decide) tw131 (Or.inr ⟨rfl, hnm, rfl⟩) dX2_init_25 rfl hp9 (aw_nmH (fun h25 e9 => ?_))
  have hw := hw h25 e9
  refine aw_aload_n (pc := 28) C dX2_init_28 rfl rfl ?_
  refine aw_iconst (pc := 29) C dX2_init_29 (i := (0 : Int)) (by decide) ?_
  obtain ⟨hp9, hw⟩ := hw
  refine aw_putI (pc := 30) C (ci := 2) (k := 3) ci2 (by decide) tw133 (Or.inl rfl) dX2_init_30 rfl hp9 (aw_nmH (fun h30 e9 => ?_))
  have hw := hw h30 e9
  refine aw_aload_n (pc := 33) C dX2_init_33 rfl rfl ?_
  refine aw_iconst (pc := 34) C dX2_init_34 (i := (0 : Int)) (by decide) ?_
  obtain ⟨hp9, hw⟩ := hw
  refine aw_putI (pc := 35) C (ci := 2) (k := 4) ci2 (by decide) tw135 (Or.inl rfl) dX2_init_35 rfl hp9 (aw_nmH (fun h35 e9 => ?_))
  have hw := hw h35 e9
  refine aw_aload_n (pc := 38) C dX2_init_38 rfl rfl ?_
  refine aw_bipush (pc := 39) C dX2_init_39 (i := (40 : Int)) (by decide) ?_
  refine aw_newI (pc := 41) (n := 40) C tw60 dX2_init_41 (Nat.le_of_ble_eq_true rfl) (Nat.le_of_ble_eq_true rfl) (Nat.le_of_ble_eq_true rfl) (aw_nmH (fun h41 e9 => ?_))
  have hw := hw h41 e9
  obtain ⟨hp9, hw⟩ := hw
  refine aw_putR (pc := 43) C (ci := 2) (k := 7) ci2 (by decide) tw140 (Or.inr ⟨rfl, hnm, rfl⟩) dX2_init_43 rfl hp9 (aw_nmH (fun h43 e9 => ?_))
  have hw := hw h43 e9
  refine aw_aload_n (pc := 46) C dX2_init_46 rfl rfl ?_
  refine aw_bipush (pc := 47) C dX2_init_47 (i := (40 : Int)) (by decide) ?_
  refine aw_newI (pc := 49) (n := 40) C tw60 dX2_init_49 (Nat.le_of_ble_eq_true rfl) (Nat.le_of_ble_eq_true rfl) (Nat.le_of_ble_eq_true rfl) (aw_nmH (fun h49 e9 => ?_))
  have hw := hw h49 e9
  obtain ⟨hp9, hw⟩ := hw
  refine aw_putR (pc := 51) C (ci := 2) (k := 8) ci2 (by decide) tw141 (Or.inr ⟨rfl, hnm, rfl⟩) dX2_init_51 rfl hp9 (aw_nmH (fun h51 e9 => ?_))
  have hw := hw h51 e9
  refine aw_aload_n (pc := 54) C dX2_init_54 rfl rfl ?_
  refine aw_bipush (pc := 55) C dX2_init_55 (i := (80 : Int)) (by decide) ?_
  refine aw_newI (pc := 57) (n := 80) C tw60 dX2_init_57 (Nat.le_of_ble_eq_true rfl) (Nat.le_of_ble_eq_true rfl) (Nat.le_of_ble_eq_true rfl) (aw_nmH (fun h57 e9 => ?_))
  have hw := hw h57 e9
  obtain ⟨hp9, hw⟩ := hw
  refine aw_putR (pc := 59) C (ci := 2) (k := 9) ci2 (by decide) tw142 (Or.inr ⟨rfl, hnm, rfl⟩) dX2_init_59 rfl hp9 (aw_nmH (fun h59 e9 => ?_))
  have hw := hw h59 e9
  refine aw_aload_n (pc := 62) C dX2_init_62 rfl rfl ?_
  refine aw_sipush (pc := 63) C dX2_init_63 (i := (191 : Int)) (by decide) ?_
  refine aw_newI (pc := 66) (n := 191) C tw60 dX2_init_66 (Nat.le_of_ble_eq_true rfl) (Nat.le_of_ble_eq_true rfl) (Nat.le_of_ble_eq_true rfl) (aw_nmH (fun h66 e9 => ?_))
  have hw := hw h66 e9
  obtain ⟨hp9, hw⟩ := hw
  refine aw_putR (pc := 68) C (ci := 2) (k := 10) ci2 (by decide) tw143 (Or.inr ⟨rfl, hnm, rfl⟩) dX2_init_68 rfl hp9 (aw_nmH (fun h68 e9 => ?_))
  have hw := hw h68 e9
  refine aw_aload_n (pc := 71) C dX2_init_71 rfl rfl ?_
  refine aw_sipush (pc := 72) C dX2_init_72 (i := (7640 : Int)) (by decide) ?_
  refine aw_newI (pc := 75) (n := 7640) C tw60 dX2_init_75 (Nat.le_of_ble_eq_true rfl) (Nat.le_of_ble_eq_true rfl) (Nat.le_of_ble_eq_true rfl) (aw_nmH (fun h75 e9 => ?_))
  have hw := hw h75 e9
  obtain ⟨hp9, hw⟩ := hw
  refine aw_putR (pc := 77) C (ci := 2) (k := 11) ci2 (by decide) tw144 (Or.inr ⟨rfl, hnm, rfl⟩) dX2_init_77 rfl hp9 (aw_nmH (fun h77 e9 => ?_))
  have hw := hw h77 e9
  refine aw_aload_n (pc := 80) C dX2_init_80 rfl rfl ?_
  refine aw_iconst (pc := 81) C dX2_init_81 (i := (0 : Int)) (by decide) ?_
  obtain ⟨hp9, hw⟩ := hw
  refine aw_putI (pc := 82) C (ci := 2) (k := 12) ci2 (by decide) tw145 (Or.inl rfl) dX2_init_82 rfl hp9 (aw_nmH (fun h82 e9 => ?_))
  have hw := hw h82 e9
  refine aw_aload_n (pc := 85) C dX2_init_85 rfl rfl ?_
  refine aw_aload_n (pc := 86) C dX2_init_86 rfl rfl ?_
  obtain ⟨hp9, hw⟩ := hw
  refine aw_putR (pc := 87) C (ci := 2) (k := 5) ci2 (by decide) tw138 (Or.inr ⟨rfl, hnm, rfl⟩) dX2_init_87 rfl hp9 (aw_nmH (fun h87 e9 => ?_))
  have hw := hw h87 e9
  refine aw_aload_n (pc := 90) C dX2_init_90 rfl rfl ?_
  refine aw_aload_n (pc := 91) C dX2_init_91 rfl rfl ?_
  obtain ⟨hp9, hw⟩ := hw
  refine aw_putR (pc := 92) C (ci := 2) (k := 6) ci2 (by decide) tw139 (Or.inr ⟨rfl, hnm, rfl⟩) dX2_init_92 rfl hp9 (aw_nmH (fun h92 e9 => ?_))
  have hw := hw h92 e9
  exact aw_vret (pc := 95) C hr dX2_init_95 ⟨Nat.le_of_ble_eq_true rfl, Nat.le_of_ble_eq_true rfl⟩ ⟨rfl, hw⟩
theorem dX2_isAway_0 : decode cX2_isAway 0 = .ok (.aload_n 0, 1) := by decide +kernel
theorem dX2_isAway_1 : decode cX2_isAway 1 = .ok (.getfield 9, 3) := by decide +kernel
theorem dX2_isAway_4 : decode cX2_isAway 4 = .ok (.iload_n 1, 1) := by decide +kernel
theorem dX2_isAway_5 : decode cX2_isAway 5 = .ok (.iaload, 1) := by decide +kernel
theorem dX2_isAway_6 : decode cX2_isAway 6 = .ok (.iconst (-1), 1) := by decide +kernel
theorem dX2_isAway_7 : decode cX2_isAway 7 = .ok (.if_icmp .eq 22, 3) := by decide +kernel
theorem dX2_isAway_10 : decode cX2_isAway 10 = .ok (.aload_n 0, 1) := by decide +kernel
theorem dX2_isAway_11 : decode cX2_isAway 11 = .ok (.getfield 28, 3) := by decide +kernel
theorem dX2_isAway_14 : decode cX2_isAway 14 = .ok (.iload_n 1, 1) := by decide +kernel
theorem dX2_isAway_15 : decode cX2_isAway 15 = .ok (.iaload, 1) := by decide +kernel
theorem dX2_isAway_16 : decode cX2_isAway 16 = .ok (.aload_n 0, 1) := by decide +kernel
theorem dX2_isAway_17 : decode cX2_isAway 17 = .ok (.getfield 9, 3) := by decide +kernel
theorem dX2_isAway_20 : decode cX2_isAway 20 = .ok (.iload_n 1, 1) := by decide +kernel
theorem dX2_isAway_21 : decode cX2_isAway 21 = .ok (.iaload, 1) := by decide +kernel
theorem dX2_isAway_22 : decode cX2_isAway 22 = .ok (.if_icmp .eq 7, 3) := by decide +kernel
theorem dX2_isAway_25 : decode cX2_isAway 25 = .ok (.iconst 1, 1) := by decide +kernel
theorem dX2_isAway_26 : decode cX2_isAway 26 = .ok (.goto 4, 3) := by decide +kernel
theorem dX2_isAway_29 : decode cX2_isAway 29 = .ok (.iconst 0, 1) := by decide +kernel
theorem dX2_isAway_30 : decode cX2_isAway 30 = .ok (.ireturn, 1) := by decide +kernel
theorem pd_X2_isAway : (parseMethodDescriptor yX2_isAway.desc).map (fun d => d.parameters.length) = some 1 := by decide +kernel
def w_X2_isAway (zz : Nat → Nat) (a0 : Nat) (a1 : Int) (h : AH) (Q : Int → AH → Prop) : Prop := okA h a0 2 ∧ ∃ b1 : Nat, hfR h a0 0 = some b1 ∧ okI h b1 a1 ∧ jn (fun (t0_30 : Int) (h_30 : AH) => (t0_30 = 0 ∨ t0_30 = 1) ∧ Q t0_30 h_30) (fun k_30 : Int → AH → Prop => jn (fun  (h_29 : AH) => k_30 (0 : Int) h_29) (fun k_29 : AH → Prop => (((haI h b1 a1) = (-1 : Int)) → k_29  h) ∧ ((¬ ((haI h b1 a1) = (-1 : Int))) → okA h a0 2 ∧ ∃ b11 : Nat, hfR h a0 7 = some b11 ∧ okI h b11 a1 ∧ okA h a0 2 ∧ ∃ b17 : Nat, hfR h a0 0 = some b17 ∧ okI h b17 a1 ∧ (((haI h b11 a1) = (haI h b17 a1)) → k_29  h) ∧ ((¬ ((haI h b11 a1) = (haI h b17 a1))) → k_30 (1 : Int) h))))
set_option maxRecDepth 100000 in
set_option maxHeartbeats 4000000 in
theorem met_X2_isAway (G : GG) (l : Launch) : ∀ (As : List Value) (a0 : Nat) (a1 : Int) (h : AH) (Q : Int → AH → Prop), As.map ab = List.map some ([vR a0, vI a1] : List AV) → w_X2_isAway G.2.2 a0 a1 h Q → Met l yX2_isAway (.code yX2_isAway cX2_isAway 2 (some .boolean) :: xTb) ({ frames := 0, cells := 0, slots := 0, locals := 0 } : Room) (PcA G As h) (QG G (oI Q)) 0 0 (frA G) := by
  intro As a0 a1 h Q hA hw
  refine met_of hA (by decide) (Nat.le_of_ble_eq_true rfl) (fun p e s m args below meth c C hml hr hnm => ?_)
  unfold w_X2_isAway at hw
  refine aw_aload_n (pc := 0) C dX2_isAway_0 rfl rfl ?_
  obtain ⟨hp9, b1, hb9, hw⟩ := hw
  refine aw_getR (pc := 1) C (ci := 2) (k := 0) ci2 (by decide) tw128 dX2_isAway_1 rfl hp9 hb9 ?_
  refine aw_iload_n (pc := 4) C dX2_isAway_4 rfl rfl ?_
  obtain ⟨⟨k9, hp9⟩, hw⟩ := hw
  refine aw_iald (pc := 5) C dX2_isAway_5 hp9 ?_
  refine aw_iconst (pc := 6) C dX2_isAway_6 (i := (-1 : Int)) (by decide) ?_
  obtain ⟨k_30, hk_30, hw⟩ := jn_out hw
  have J_30 : ∀ (t0_30 : Int) (h_30 : AH), k_30 t0_30 h_30 → AW G p l e ({ frames := 0, cells := 0, slots := 0, locals := 0 } : Room) s m args below meth c 0 0 (MQ below (QG G (oI Q)) args s 0 0 (frA G)) 30 (eOf []) [vI t0_30] h_30 := by
    intro t0_30 h_30 hw
    rw [hk_30] at hw
    obtain ⟨hp9, hw⟩ := hw
    exact aw_zret (pc := 30) C hr dX2_isAway_30 ⟨Nat.le_of_ble_eq_true rfl, Nat.le_of_ble_eq_true rfl⟩ hp9 ⟨_, rfl, hw⟩
  obtain ⟨k_29, hk_29, hw⟩ := jn_out hw
  have J_29 : ∀  (h_29 : AH), k_29  h_29 → AW G p l e ({ frames := 0, cells := 0, slots := 0, locals := 0 } : Room) s m args below meth c 0 0 (MQ below (QG G (oI Q)) args s 0 0 (frA G)) 29 (eOf []) [] h_29 := by
    intro  h_29 hw
    rw [hk_29] at hw
    refine aw_iconst (pc := 29) C dX2_isAway_29 (i := (0 : Int)) (by decide) ?_
    refine aw_sub [] trivial ?_
    exact J_30 _ _ hw
  refine aw_icmp_eq (pc := 7) (tgt := 29) C dX2_isAway_7 (by decide) (fun hc9 => ?_) (fun hc9 => ?_)
  · have hw := hw.1 hc9
    refine aw_sub [] trivial ?_
    exact J_29  _ hw
  · have hw := hw.2 hc9
    refine aw_aload_n (pc := 10) C dX2_isAway_10 rfl rfl ?_
    obtain ⟨hp9, b11, hb9, hw⟩ := hw
    refine aw_getR (pc := 11) C (ci := 2) (k := 7) ci2 (by decide) tw140 dX2_isAway_11 rfl hp9 hb9 ?_
    refine aw_iload_n (pc := 14) C dX2_isAway_14 rfl rfl ?_
    obtain ⟨⟨k9, hp9⟩, hw⟩ := hw
    refine aw_iald (pc := 15) C dX2_isAway_15 hp9 ?_
    refine aw_aload_n (pc := 16) C dX2_isAway_16 rfl rfl ?_
    obtain ⟨hp9, b17, hb9, hw⟩ := hw
    refine aw_getR (pc := 17) C (ci := 2) (k := 0) ci2 (by decide) tw128 dX2_isAway_17 rfl hp9 hb9 ?_
    refine aw_iload_n (pc := 20) C dX2_isAway_20 rfl rfl ?_
    obtain ⟨⟨k9, hp9⟩, hw⟩ := hw
    refine aw_iald (pc := 21) C dX2_isAway_21 hp9 ?_
    refine aw_icmp_eq (pc := 22) (tgt := 29) C dX2_isAway_22 (by decide) (fun hc9 => ?_) (fun hc9 => ?_)
    · have hw := hw.1 hc9
      refine aw_sub [] trivial ?_
      exact J_29  _ hw
    · have hw := hw.2 hc9
      refine aw_iconst (pc := 25) C dX2_isAway_25 (i := (1 : Int)) (by decide) ?_
      refine aw_goto (pc := 26) (tgt := 30) C dX2_isAway_26 (by decide) ?_
      refine aw_sub [] trivial ?_
      exact J_30 _ _ hw
theorem dX2_start_0 : decode cX2_start 0 = .ok (.aload_n 0, 1) := by decide +kernel
theorem dX2_start_1 : decode cX2_start 1 = .ok (.iconst 0, 1) := by decide +kernel
theorem dX2_start_2 : decode cX2_start 2 = .ok (.putfield 21, 3) := by decide +kernel
theorem dX2_start_5 : decode cX2_start 5 = .ok (.aload_n 0, 1) := by decide +kernel
theorem dX2_start_6 : decode cX2_start 6 = .ok (.iconst 0, 1) := by decide +kernel
theorem dX2_start_7 : decode cX2_start 7 = .ok (.putfield 25, 3) := by decide +kernel
theorem dX2_start_10 : decode cX2_start 10 = .ok (.aload_n 0, 1) := by decide +kernel
theorem dX2_start_11 : decode cX2_start 11 = .ok (.iconst 0, 1) := by decide +kernel
theorem dX2_start_12 : decode cX2_start 12 = .ok (.putfield 43, 3) := by decide +kernel
theorem dX2_start_15 : decode cX2_start 15 = .ok (.aload_n 0, 1) := by decide +kernel
theorem dX2_start_16 : decode cX2_start 16 = .ok (.getfield 34, 3) := by decide +kernel
theorem dX2_start_19 : decode cX2_start 19 = .ok (.iconst 0, 1) := by decide +kernel
theorem dX2_start_20 : decode cX2_start 20 = .ok (.invokestatic 89, 3) := by decide +kernel
theorem dX2_start_23 : decode cX2_start 23 = .ok (.aload_n 0, 1) := by decide +kernel
theorem dX2_start_24 : decode cX2_start 24 = .ok (.getfield 15, 3) := by decide +kernel
theorem dX2_start_27 : decode cX2_start 27 = .ok (.iconst 0, 1) := by decide +kernel
theorem dX2_start_28 : decode cX2_start 28 = .ok (.invokestatic 89, 3) := by decide +kernel
theorem dX2_start_31 : decode cX2_start 31 = .ok (.aload_n 0, 1) := by decide +kernel
theorem dX2_start_32 : decode cX2_start 32 = .ok (.getfield 31, 3) := by decide +kernel
theorem dX2_start_35 : decode cX2_start 35 = .ok (.iconst 0, 1) := by decide +kernel
theorem dX2_start_36 : decode cX2_start 36 = .ok (.invokestatic 89, 3) := by decide +kernel
theorem dX2_start_39 : decode cX2_start 39 = .ok (.aload_n 0, 1) := by decide +kernel
theorem dX2_start_40 : decode cX2_start 40 = .ok (.getfield 18, 3) := by decide +kernel
theorem dX2_start_43 : decode cX2_start 43 = .ok (.iconst 0, 1) := by decide +kernel
theorem dX2_start_44 : decode cX2_start 44 = .ok (.invokestatic 89, 3) := by decide +kernel
theorem dX2_start_47 : decode cX2_start 47 = .ok (.aload_n 0, 1) := by decide +kernel
theorem dX2_start_48 : decode cX2_start 48 = .ok (.getfield 37, 3) := by decide +kernel
theorem dX2_start_51 : decode cX2_start 51 = .ok (.iconst 0, 1) := by decide +kernel
theorem dX2_start_52 : decode cX2_start 52 = .ok (.invokestatic 89, 3) := by decide +kernel
theorem dX2_start_55 : decode cX2_start 55 = .ok (.iconst 0, 1) := by decide +kernel
theorem dX2_start_56 : decode cX2_start 56 = .ok (.istore_n 1, 1) := by decide +kernel
theorem dX2_start_57 : decode cX2_start 57 = .ok (.iload_n 1, 1) := by decide +kernel
theorem dX2_start_58 : decode cX2_start 58 = .ok (.aload_n 0, 1) := by decide +kernel
theorem dX2_start_59 : decode cX2_start 59 = .ok (.getfield 46, 3) := by decide +kernel
theorem dX2_start_62 : decode cX2_start 62 = .ok (.iconst 0, 1) := by decide +kernel
theorem dX2_start_63 : decode cX2_start 63 = .ok (.invokevirtual 66, 3) := by decide +kernel
theorem dX2_start_66 : decode cX2_start 66 = .ok (.getfield 72, 3) := by decide +kernel
theorem dX2_start_69 : decode cX2_start 69 = .ok (.if_icmp .ge 106, 3) := by decide +kernel
theorem dX2_start_72 : decode cX2_start 72 = .ok (.aload_n 0, 1) := by decide +kernel
theorem dX2_start_73 : decode cX2_start 73 = .ok (.getfield 28, 3) := by decide +kernel
theorem dX2_start_76 : decode cX2_start 76 = .ok (.iload_n 1, 1) := by decide +kernel
theorem dX2_start_77 : decode cX2_start 77 = .ok (.aload_n 0, 1) := by decide +kernel
theorem dX2_start_78 : decode cX2_start 78 = .ok (.getfield 46, 3) := by decide +kernel
theorem dX2_start_81 : decode cX2_start 81 = .ok (.iconst 0, 1) := by decide +kernel
theorem dX2_start_82 : decode cX2_start 82 = .ok (.invokevirtual 66, 3) := by decide +kernel
theorem dX2_start_85 : decode cX2_start 85 = .ok (.getfield 95, 3) := by decide +kernel
theorem dX2_start_88 : decode cX2_start 88 = .ok (.iload_n 1, 1) := by decide +kernel
theorem dX2_start_89 : decode cX2_start 89 = .ok (.iaload, 1) := by decide +kernel
theorem dX2_start_90 : decode cX2_start 90 = .ok (.iastore, 1) := by decide +kernel
theorem dX2_start_91 : decode cX2_start 91 = .ok (.aload_n 0, 1) := by decide +kernel
theorem dX2_start_92 : decode cX2_start 92 = .ok (.getfield 9, 3) := by decide +kernel
theorem dX2_start_95 : decode cX2_start 95 = .ok (.iload_n 1, 1) := by decide +kernel
theorem dX2_start_96 : decode cX2_start 96 = .ok (.iconst (-1), 1) := by decide +kernel
theorem dX2_start_97 : decode cX2_start 97 = .ok (.iastore, 1) := by decide +kernel
theorem dX2_start_98 : decode cX2_start 98 = .ok (.aload_n 0, 1) := by decide +kernel
theorem dX2_start_99 : decode cX2_start 99 = .ok (.getfield 50, 3) := by decide +kernel
theorem dX2_start_102 : decode cX2_start 102 = .ok (.getfield 96, 3) := by decide +kernel
theorem dX2_start_105 : decode cX2_start 105 = .ok (.iload_n 1, 1) := by decide +kernel
theorem dX2_start_106 : decode cX2_start 106 = .ok (.iaload, 1) := by decide +kernel
theorem dX2_start_107 : decode cX2_start 107 = .ok (.istore_n 2, 1) := by decide +kernel
theorem dX2_start_108 : decode cX2_start 108 = .ok (.iload_n 2, 1) := by decide +kernel
theorem dX2_start_109 : decode cX2_start 109 = .ok (.iconst (-1), 1) := by decide +kernel
theorem dX2_start_110 : decode cX2_start 110 = .ok (.if_icmp .eq 59, 3) := by decide +kernel
theorem dX2_start_113 : decode cX2_start 113 = .ok (.aload_n 0, 1) := by decide +kernel
theorem dX2_start_114 : decode cX2_start 114 = .ok (.getfield 9, 3) := by decide +kernel
theorem dX2_start_117 : decode cX2_start 117 = .ok (.iload_n 1, 1) := by decide +kernel
theorem dX2_start_118 : decode cX2_start 118 = .ok (.aload_n 0, 1) := by decide +kernel
theorem dX2_start_119 : decode cX2_start 119 = .ok (.getfield 46, 3) := by decide +kernel
theorem dX2_start_122 : decode cX2_start 122 = .ok (.iconst 1, 1) := by decide +kernel
theorem dX2_start_123 : decode cX2_start 123 = .ok (.invokevirtual 66, 3) := by decide +kernel
theorem dX2_start_126 : decode cX2_start 126 = .ok (.getfield 95, 3) := by decide +kernel
theorem dX2_start_129 : decode cX2_start 129 = .ok (.iload_n 2, 1) := by decide +kernel
theorem dX2_start_130 : decode cX2_start 130 = .ok (.iaload, 1) := by decide +kernel
theorem dX2_start_131 : decode cX2_start 131 = .ok (.iastore, 1) := by decide +kernel
theorem dX2_start_132 : decode cX2_start 132 = .ok (.aload_n 0, 1) := by decide +kernel
theorem dX2_start_133 : decode cX2_start 133 = .ok (.getfield 34, 3) := by decide +kernel
theorem dX2_start_136 : decode cX2_start 136 = .ok (.aload_n 0, 1) := by decide +kernel
theorem dX2_start_137 : decode cX2_start 137 = .ok (.getfield 28, 3) := by decide +kernel
theorem dX2_start_140 : decode cX2_start 140 = .ok (.iload_n 1, 1) := by decide +kernel
theorem dX2_start_141 : decode cX2_start 141 = .ok (.iaload, 1) := by decide +kernel
theorem dX2_start_142 : decode cX2_start 142 = .ok (.dup2, 1) := by decide +kernel
theorem dX2_start_143 : decode cX2_start 143 = .ok (.iaload, 1) := by decide +kernel
theorem dX2_start_144 : decode cX2_start 144 = .ok (.iconst 1, 1) := by decide +kernel
theorem dX2_start_145 : decode cX2_start 145 = .ok (.iadd, 1) := by decide +kernel
theorem dX2_start_146 : decode cX2_start 146 = .ok (.iastore, 1) := by decide +kernel
theorem dX2_start_147 : decode cX2_start 147 = .ok (.aload_n 0, 1) := by decide +kernel
theorem dX2_start_148 : decode cX2_start 148 = .ok (.dup, 1) := by decide +kernel
theorem dX2_start_149 : decode cX2_start 149 = .ok (.getfield 43, 3) := by decide +kernel
theorem dX2_start_152 : decode cX2_start 152 = .ok (.aload_n 0, 1) := by decide +kernel
theorem dX2_start_153 : decode cX2_start 153 = .ok (.iload_n 1, 1) := by decide +kernel
theorem dX2_start_154 : decode cX2_start 154 = .ok (.invokevirtual 77, 3) := by decide +kernel
theorem dX2_start_157 : decode cX2_start 157 = .ok (.ifCond .eq 7, 3) := by decide +kernel
theorem dX2_start_160 : decode cX2_start 160 = .ok (.iconst 1, 1) := by decide +kernel
theorem dX2_start_161 : decode cX2_start 161 = .ok (.goto 4, 3) := by decide +kernel
theorem dX2_start_164 : decode cX2_start 164 = .ok (.iconst 0, 1) := by decide +kernel
theorem dX2_start_165 : decode cX2_start 165 = .ok (.iadd, 1) := by decide +kernel
theorem dX2_start_166 : decode cX2_start 166 = .ok (.putfield 43, 3) := by decide +kernel
theorem dX2_start_169 : decode cX2_start 169 = .ok (.iinc 1 1, 3) := by decide +kernel
theorem dX2_start_172 : decode cX2_start 172 = .ok (.goto (-115), 3) := by decide +kernel
theorem dX2_start_175 : decode cX2_start 175 = .ok (.return_, 1) := by decide +kernel
theorem pd_X2_start : (parseMethodDescriptor yX2_start.desc).map (fun d => d.parameters.length) = some 0 := by decide +kernel
def w_X2_start (zz : Nat → Nat) (a0 : Nat) (h : AH) (Q : AH → Prop) : Prop := okP h a0 2 ∧ ∀ h2 : AH, h2 = sfI h a0 3 (0 : Int) → okP h2 a0 2 ∧ ∀ h7 : AH, h7 = sfI h2 a0 4 (0 : Int) → okP h7 a0 2 ∧ ∀ h12 : AH, h12 = sfI h7 a0 12 (0 : Int) → okA h12 a0 2 ∧ ∃ b16 : Nat, hfR h12 a0 9 = some b16 ∧ w_J7_fill_53178 zz b16 (0 : Int) h12 (fun  (h20 : AH) => okA h20 a0 2 ∧ ∃ b24 : Nat, hfR h20 a0 1 = some b24 ∧ w_J7_fill_53178 zz b24 (0 : Int) h20 (fun  (h28 : AH) => okA h28 a0 2 ∧ ∃ b32 : Nat, hfR h28 a0 8 = some b32 ∧ w_J7_fill_53178 zz b32 (0 : Int) h28 (fun  (h36 : AH) => okA h36 a0 2 ∧ ∃ b40 : Nat, hfR h36 a0 2 = some b40 ∧ w_J7_fill_53178 zz b40 (0 : Int) h36 (fun  (h44 : AH) => okA h44 a0 2 ∧ ∃ b48 : Nat, hfR h44 a0 10 = some b48 ∧ w_J7_fill_53178 zz b48 (0 : Int) h44 (fun  (h52 : AH) => ∃ I_57 : Nat → Int → AH → Prop, (∃ n, I_57 n (0 : Int) h52) ∧ ∀ (n_57 : Nat) (x1_57 : Int) (h_57 : AH), I_57 n_57 x1_57 h_57 → (okA h_57 a0 2 ∧ ∃ b59 : Nat, hfR h_57 a0 5 = some b59 ∧ okA h_57 b59 4 ∧ w_X4_text zz b59 (0 : Int) h_57 (fun (r63 : Nat) (h63 : AH) => okA h63 r63 5 ∧ (((hfI h63 r63 2) ≤ x1_57) → Q h63) ∧ ((¬ ((hfI h63 r63 2) ≤ x1_57)) → okA h63 a0 2 ∧ ∃ b73 : Nat, hfR h63 a0 7 = some b73 ∧ okA h63 a0 2 ∧ ∃ b78 : Nat, hfR h63 a0 5 = some b78 ∧ okA h63 b78 4 ∧ w_X4_text zz b78 (0 : Int) h63 (fun (r82 : Nat) (h82 : AH) => okA h82 r82 5 ∧ ∃ b85 : Nat, hfR h82 r82 1 = some b85 ∧ okI h82 b85 x1_57 ∧ okW h82 b73 x1_57 ∧ ∀ h90 : AH, h90 = saI h82 b73 (u1 (haI h82 b73) x1_57 (haI h82 b85 x1_57)) → okA h90 a0 2 ∧ ∃ b92 : Nat, hfR h90 a0 0 = some b92 ∧ okW h90 b92 x1_57 ∧ ∀ h97 : AH, h97 = saI h90 b92 (u1 (haI h90 b92) x1_57 (-1 : Int)) → okA h97 a0 2 ∧ ∃ b99 : Nat, hfR h97 a0 6 = some b99 ∧ okA h97 b99 3 ∧ ∃ b102 : Nat, hfR h97 b99 0 = some b102 ∧ okI h97 b102 x1_57 ∧ ∀ x2_107 : Int, x2_107 = (haI h97 b102 x1_57) → jn (fun  (h_169 : AH) => inR (x1_57 + 1) ∧ ∀ x1_169 : Int, x1_169 = (x1_57 + 1) → ∃ m, m < n_57 ∧ I_57 m x1_169 h_169) (fun k_169 : AH → Prop => ((x2_107 = (-1 : Int)) → k_169  h97) ∧ ((¬ (x2_107 = (-1 : Int))) → okA h97 a0 2 ∧ ∃ b114 : Nat, hfR h97 a0 0 = some b114 ∧ okA h97 a0 2 ∧ ∃ b119 : Nat, hfR h97 a0 5 = some b119 ∧ okA h97 b119 4 ∧ w_X4_text zz b119 (1 : Int) h97 (fun (r123 : Nat) (h123 : AH) => okA h123 r123 5 ∧ ∃ b126 : Nat, hfR h123 r123 1 = some b126 ∧ okI h123 b126 x2_107 ∧ okW h123 b114 x1_57 ∧ ∀ h131 : AH, h131 = saI h123 b114 (u1 (haI h123 b114) x1_57 (haI h123 b126 x2_107)) → okA h131 a0 2 ∧ ∃ b133 : Nat, hfR h131 a0 9 = some b133 ∧ okA h131 a0 2 ∧ ∃ b137 : Nat, hfR h131 a0 7 = some b137 ∧ okI h131 b137 x1_57 ∧ okI h131 b133 (haI h131 b137 x1_57) ∧ inR ((haI h131 b133 (haI h131 b137 x1_57)) + (1 : Int)) ∧ okW h131 b133 (haI h131 b137 x1_57) ∧ ∀ h146 : AH, h146 = saI h131 b133 (u1 (haI h131 b133) (haI h131 b137 x1_57) ((haI h131 b133 (haI h131 b137 x1_57)) + (1 : Int))) → okA h146 a0 2 ∧ okA h146 a0 2 ∧ w_X2_isAway zz a0 x1_57 h146 (fun (r154 : Int) (h154 : AH) => jn (fun (t2_165 : Int) (h_165 : AH) => inR ((hfI h146 a0 12) + t2_165) ∧ okP h_165 a0 2 ∧ ∀ h166 : AH, h166 = sfI h_165 a0 12 ((hfI h146 a0 12) + t2_165) → k_169  h166) (fun k_165 : Int → AH → Prop => ((r154 = 0) → k_165 (0 : Int) h154) ∧ ((¬ (r154 = 0)) → k_165 (1 : Int) h154)))))))))))))))
set_option maxRecDepth 100000 in
set_option maxHeartbeats 4000000 in
theorem met_X2_start (G : GG) (l : Launch) : ∀ (As : List Value) (a0 : Nat) (h : AH) (Q : AH → Prop), As.map ab = List.map some ([vR a0] : List AV) → w_X2_start G.2.2 a0 h Q → Met l yX2_start (.code yX2_start cX2_start 3 none :: xTb) ({ frames := 1, cells := 0, slots := 0, locals := 23 } : Room) (PcA G As h) (QG G (oV Q)) 0 0 (frA G) := by
  intro As a0 h Q hA hw
  refine met_of hA (by decide) (Nat.le_of_ble_eq_true rfl) (fun p e s m args below meth c C hml hr hnm => ?_)
  unfold w_X2_start at hw
  refine aw_aload_n (pc := 0) C dX2_start_0 rfl rfl ?_
  refine aw_iconst (pc := 1) C dX2_start_1 (i := (0 : Int)) (by decide) ?_
  obtain ⟨hp9, hw⟩ := hw
  refine aw_putI (pc := 2) C (ci := 2) (k := 3) ci2 (by decide) tw133 (Or.inl rfl) dX2_start_2 rfl hp9 (aw_nmH (fun h2 e9 => ?_))
  have hw := hw h2 e9
  refine aw_aload_n (pc := 5) C dX2_start_5 rfl rfl ?_
  refine aw_iconst (pc := 6) C dX2_start_6 (i := (0 : Int)) (by decide) ?_
  obtain ⟨hp9, hw⟩ := hw
  refine aw_putI (pc := 7) C (ci := 2) (k := 4) ci2 (by decide) tw135 (Or.inl rfl) dX2_start_7 rfl hp9 (aw_nmH (fun h7 e9 => ?_))
  have hw := hw h7 e9
  refine aw_aload_n (pc := 10) C dX2_start_10 rfl rfl ?_
  refine aw_iconst (pc := 11) C dX2_start_11 (i := (0 : Int)) (by decide) ?_
  obtain ⟨hp9, hw⟩ := hw
  refine aw_putI (pc := 12) C (ci := 2) (k := 12) ci2 (by decide) tw145 (Or.inl rfl) dX2_start_12 rfl hp9 (aw_nmH (fun h12 e9 => ?_))
  have hw := hw h12 e9
  refine aw_aload_n (pc := 15) C dX2_start_15 rfl rfl ?_
  obtain ⟨hp9, b16, hb9, hw⟩ := hw
  refine aw_getR (pc := 16) C (ci := 2) (k := 9) ci2 (by decide) tw142 dX2_start_16 rfl hp9 hb9 ?_
  refine aw_iconst (pc := 19) C dX2_start_19 (i := (0 : Int)) (by decide) ?_
  refine aw_callS (pc := 20) (as := [vR b16, vI (0 : Int)]) C (fun As hA => met_J7_fill_53178 G l As b16 (0 : Int) _ _ hA hw) tw357 tw41 tw4 tw42 ⟨rfl, rfl⟩ ⟨by decide, by decide, pd_J7_fill_53178⟩ ⟨Nat.le_of_ble_eq_true rfl, Nat.le_of_ble_eq_true rfl⟩ ⟨Nat.zero_le _, Nat.zero_le _⟩ (Nat.le_of_ble_eq_true rfl) dX2_start_20 rfl (fun v9 h20 hq9 => ?_)
  obtain ⟨rfl, hw⟩ := hq9
  refine aw_aload_n (pc := 23) C dX2_start_23 rfl rfl ?_
  obtain ⟨hp9, b24, hb9, hw⟩ := hw
  refine aw_getR (pc := 24) C (ci := 2) (k := 1) ci2 (by decide) tw129 dX2_start_24 rfl hp9 hb9 ?_
  refine aw_iconst (pc := 27) C dX2_start_27 (i := (0 : Int)) (by decide) ?_
  refine aw_callS (pc := 28) (as := [vR b24, vI (0 : Int)]) C (fun As hA => met_J7_fill_53178 G l As b24 (0 : Int) _ _ hA hw) tw357 tw41 tw4 tw42 ⟨rfl, rfl⟩ ⟨by decide, by decide, pd_J7_fill_53178⟩ ⟨Nat.le_of_ble_eq_true rfl, Nat.le_of_ble_eq_true rfl⟩ ⟨Nat.zero_le _, Nat.zero_le _⟩ (Nat.le_of_ble_eq_true rfl) dX2_start_28 rfl (fun v9 h28 hq9 => ?_)
  obtain ⟨rfl, hw⟩ := hq9
  refine aw_aload_n (pc := 31) C dX2_start_31 rfl rfl ?_
  obtain ⟨hp9, b32, hb9, hw⟩ := hw
  refine aw_getR (pc := 32) C (ci := 2) (k := 8) ci2 (by decide) tw141 dX2_start_32 rfl hp9 hb9 ?_
  refine aw_iconst (pc := 35) C dX2_start_35 (i := (0 : Int)) (by decide) ?_
  refine aw_callS (pc := 36) (as := [vR b32, vI (0 : Int)]) C (fun As hA => met_J7_fill_53178 G l As b32 (0 : Int) _ _ hA hw) tw357 tw41 tw4 tw42 ⟨rfl, rfl⟩ ⟨by decide, by decide, pd_J7_fill_53178⟩ ⟨Nat.le_of_ble_eq_true rfl, Nat.le_of_ble_eq_true rfl⟩ ⟨Nat.zero_le _, Nat.zero_le _⟩ (Nat.le_of_ble_eq_true rfl) dX2_start_36 rfl (fun v9 h36 hq9 => ?_)
  obtain ⟨rfl, hw⟩ := hq9
  refine aw_aload_n (pc := 39) C dX2_start_39 rfl rfl ?_
  obtain ⟨hp9, b40, hb9, hw⟩ := hw
  refine aw_getR (pc := 40) C (ci := 2) (k := 2) ci2 (by decide) tw131 dX2_start_40 rfl hp9 hb9 ?_
  refine aw_iconst (pc := 43) C dX2_start_43 (i := (0 : Int)) (by decide) ?_
  refine aw_callS (pc := 44) (as := [vR b40, vI (0 : Int)]) C (fun As hA => met_J7_fill_53178 G l As b40 (0 : Int) _ _ hA hw) tw357 tw41 tw4 tw42 ⟨rfl, rfl⟩ ⟨by decide, by decide, pd_J7_fill_53178⟩ ⟨Nat.le_of_ble_eq_true rfl, Nat.le_of_ble_eq_true rfl⟩ ⟨Nat.zero_le _, Nat.zero_le _⟩ (Nat.le_of_ble_eq_true rfl) dX2_start_44 rfl (fun v9 h44 hq9 => ?_)
  obtain ⟨rfl, hw⟩ := hq9
  refine aw_aload_n (pc := 47) C dX2_start_47 rfl rfl ?_
  obtain ⟨hp9, b48, hb9, hw⟩ := hw
  refine aw_getR (pc := 48) C (ci := 2) (k := 10) ci2 (by decide) tw143 dX2_start_48 rfl hp9 hb9 ?_
  refine aw_iconst (pc := 51) C dX2_start_51 (i := (0 : Int)) (by decide) ?_
  refine aw_callS (pc := 52) (as := [vR b48, vI (0 : Int)]) C (fun As hA => met_J7_fill_53178 G l As b48 (0 : Int) _ _ hA hw) tw357 tw41 tw4 tw42 ⟨rfl, rfl⟩ ⟨by decide, by decide, pd_J7_fill_53178⟩ ⟨Nat.le_of_ble_eq_true rfl, Nat.le_of_ble_eq_true rfl⟩ ⟨Nat.zero_le _, Nat.zero_le _⟩ (Nat.le_of_ble_eq_true rfl) dX2_start_52 rfl (fun v9 h52 hq9 => ?_)
  obtain ⟨rfl, hw⟩ := hq9
  refine aw_iconst (pc := 55) C dX2_start_55 (i := (0 : Int)) (by decide) ?_
  refine aw_istore_n (pc := 56) C dX2_start_56 rfl (by rw [hml]; decide) ?_
  obtain ⟨I_57, ⟨n9, hi9⟩, hst9⟩ := hw
  have L_57 : ∀ (n_57 : Nat) (x1_57 : Int) (h_57 : AH), I_57 n_57 x1_57 h_57 → AW G p l e ({ frames := 1, cells := 0, slots := 0, locals := 23 } : Room) s m args below meth c 0 0 (MQ below (QG G (oV Q)) args s 0 0 (frA G)) 57 (eOf [(0, vR a0), (1, vI x1_57)]) [] h_57 := by
    intro n_57
    induction n_57 using Nat.strongRecOn with
    | _ n_57 ih_57 =>
    intro x1_57 h_57 hi9
    have hw := hst9 n_57 x1_57 h_57 hi9
    refine aw_iload_n (pc := 57) C dX2_start_57 rfl rfl ?_
    refine aw_aload_n (pc := 58) C dX2_start_58 rfl rfl ?_
    obtain ⟨hp9, b59, hb9, hw⟩ := hw
    refine aw_getR (pc := 59) C (ci := 2) (k := 5) ci2 (by decide) tw138 dX2_start_59 rfl hp9 hb9 ?_
    refine aw_iconst (pc := 62) C dX2_start_62 (i := (0 : Int)) (by decide) ?_
    obtain ⟨hp9, hw⟩ := hw
    refine aw_callV (pc := 63) (as := [vI (0 : Int)]) C ci4 (fun As hA => met_X4_text G l As b59 (0 : Int) _ _ hA hw) tw358 tw266 tw267 tw2 tw268 ⟨rfl, rfl⟩ ⟨rfl, by decide, by decide, pd_X4_text⟩ ⟨Nat.le_of_ble_eq_true rfl, Nat.le_of_ble_eq_true rfl⟩ ⟨Nat.zero_le _, Nat.zero_le _⟩ (Nat.le_of_ble_eq_true rfl) dX2_start_63 rfl hp9 (fun v9 h63 hq9 => ?_)
    obtain ⟨r63, rfl, hw⟩ := hq9
    obtain ⟨hp9, hw⟩ := hw
    refine aw_getI (pc := 66) C (ci := 5) (k := 2) ci5 (by decide) tw51 dX2_start_66 rfl hp9 ?_
    refine aw_icmp_ge (pc := 69) (tgt := 175) C dX2_start_69 (by decide) (fun hc9 => ?_) (fun hc9 => ?_)
    · have hw := hw.1 hc9
      exact aw_vret (pc := 175) C hr dX2_start_175 ⟨Nat.le_of_ble_eq_true rfl, Nat.le_of_ble_eq_true rfl⟩ ⟨rfl, hw⟩
    · have hw := hw.2 hc9
      refine aw_aload_n (pc := 72) C dX2_start_72 rfl rfl ?_
      obtain ⟨hp9, b73, hb9, hw⟩ := hw
      refine aw_getR (pc := 73) C (ci := 2) (k := 7) ci2 (by decide) tw140 dX2_start_73 rfl hp9 hb9 ?_
      refine aw_iload_n (pc := 76) C dX2_start_76 rfl rfl ?_
      refine aw_aload_n (pc := 77) C dX2_start_77 rfl rfl ?_
      obtain ⟨hp9, b78, hb9, hw⟩ := hw
      refine aw_getR (pc := 78) C (ci := 2) (k := 5) ci2 (by decide) tw138 dX2_start_78 rfl hp9 hb9 ?_
      refine aw_iconst (pc := 81) C dX2_start_81 (i := (0 : Int)) (by decide) ?_
      obtain ⟨hp9, hw⟩ := hw
      refine aw_callV (pc := 82) (as := [vI (0 : Int)]) C ci4 (fun As hA => met_X4_text G l As b78 (0 : Int) _ _ hA hw) tw358 tw266 tw267 tw2 tw268 ⟨rfl, rfl⟩ ⟨rfl, by decide, by decide, pd_X4_text⟩ ⟨Nat.le_of_ble_eq_true rfl, Nat.le_of_ble_eq_true rfl⟩ ⟨Nat.zero_le _, Nat.zero_le _⟩ (Nat.le_of_ble_eq_true rfl) dX2_start_82 rfl hp9 (fun v9 h82 hq9 => ?_)
      obtain ⟨r82, rfl, hw⟩ := hq9
      obtain ⟨hp9, b85, hb9, hw⟩ := hw
      refine aw_getR (pc := 85) C (ci := 5) (k := 1) ci5 (by decide) tw46 dX2_start_85 rfl hp9 hb9 ?_
      refine aw_iload_n (pc := 88) C dX2_start_88 rfl rfl ?_
      obtain ⟨⟨k9, hp9⟩, hw⟩ := hw
      refine aw_iald (pc := 89) C dX2_start_89 hp9 ?_
      obtain ⟨⟨k9, hp9⟩, hw⟩ := hw
      refine aw_iast (pc := 90) C dX2_start_90 hp9 (aw_nmH (fun h90 e9 => ?_))
      have hw := hw h90 e9
      refine aw_aload_n (pc := 91) C dX2_start_91 rfl rfl ?_
      obtain ⟨hp9, b92, hb9, hw⟩ := hw
      refine aw_getR (pc := 92) C (ci := 2) (k := 0) ci2 (by decide) tw128 dX2_start_92 rfl hp9 hb9 ?_
      refine aw_iload_n (pc := 95) C dX2_start_95 rfl rfl ?_
      refine aw_iconst (pc := 96) C dX2_start_96 (i := (-1 : Int)) (by decide) ?_
      obtain ⟨⟨k9, hp9⟩, hw⟩ := hw
      refine aw_iast (pc := 97) C dX2_start_97 hp9 (aw_nmH (fun h97 e9 => ?_))
      have hw := hw h97 e9
      refine aw_aload_n (pc := 98) C dX2_start_98 rfl rfl ?_
      obtain ⟨hp9, b99, hb9, hw⟩ := hw
      refine aw_getR (pc := 99) C (ci := 2) (k := 6) ci2 (by decide) tw139 dX2_start_99 rfl hp9 hb9 ?_
      obtain ⟨hp9, b102, hb9, hw⟩ := hw
      refine aw_getR (pc := 102) C (ci := 3) (k := 0) ci3 (by decide) tw94 dX2_start_102 rfl hp9 hb9 ?_
      refine aw_iload_n (pc := 105) C dX2_start_105 rfl rfl ?_
      obtain ⟨⟨k9, hp9⟩, hw⟩ := hw
      refine aw_iald (pc := 106) C dX2_start_106 hp9 ?_
      refine aw_nmI (fun x2_107 e9 => ?_)
      have hw := hw x2_107 e9
      refine aw_istore_n (pc := 107) C dX2_start_107 rfl (by rw [hml]; decide) ?_
      refine aw_iload_n (pc := 108) C dX2_start_108 rfl rfl ?_
      refine aw_iconst (pc := 109) C dX2_start_109 (i := (-1 : Int)) (by decide) ?_
      obtain ⟨k_169, hk_169, hw⟩ := jn_out hw
      have J_169 : ∀  (h_169 : AH), k_169  h_169 → AW G p l e ({ frames := 1, cells := 0, slots := 0, locals := 23 } : Room) s m args below meth c 0 0 (MQ below (QG G (oV Q)) args s 0 0 (frA G)) 169 (eOf [(0, vR a0), (1, vI x1_57)]) [] h_169 := by
        intro  h_169 hw
        rw [hk_169] at hw
        obtain ⟨hp9, hw⟩ := hw
        refine aw_iincN (pc := 169) C dX2_start_169 (k := 1) (by decide) rfl (by rw [hml]; decide) hp9 (fun x1_169 e9 => ?_)
        have hw := hw x1_169 e9
        refine aw_goto (pc := 172) (tgt := 57) C dX2_start_172 (by decide) ?_
        obtain ⟨m9, hm9, hw⟩ := hw
        refine aw_sub [(0, vR a0), (1, vI x1_169)] ⟨rfl, rfl, trivial⟩ ?_
        exact ih_57 m9 hm9 _ _ hw
      refine aw_icmp_eq (pc := 110) (tgt := 169) C dX2_start_110 (by decide) (fun hc9 => ?_) (fun hc9 => ?_)
      · have hw := hw.1 hc9
        refine aw_sub [(0, vR a0), (1, vI x1_57)] ⟨rfl, rfl, trivial⟩ ?_
        exact J_169  _ hw
      · have hw := hw.2 hc9
        refine aw_aload_n (pc := 113) C dX2_start_113 rfl rfl ?_
        obtain ⟨hp9, b114, hb9, hw⟩ := hw
        refine aw_getR (pc := 114) C (ci := 2) (k := 0) ci2 (by decide) tw128 dX2_start_114 rfl hp9 hb9 ?_
        refine aw_iload_n (pc := 117) C dX2_start_117 rfl rfl ?_
        refine aw_aload_n (pc := 118) C dX2_start_118 rfl rfl ?_
        obtain ⟨hp9, b119, hb9, hw⟩ := hw
        refine aw_getR (pc := 119) C (ci := 2) (k := 5) ci2 (by decide) tw138 dX2_start_119 rfl hp9 hb9 ?_
        refine aw_iconst (pc := 122) C dX2_start_122 (i := (1 : Int)) (by decide) ?_
        obtain ⟨hp9, hw⟩ := hw
        refine aw_callV (pc := 123) (as := [vI (1 : Int)]) C ci4 (fun As hA => met_X4_text G l As b119 (1 : Int) _ _ hA hw) tw358 tw266 tw267 tw2 tw268 ⟨rfl, rfl⟩ ⟨rfl, by decide, by decide, pd_X4_text⟩ ⟨Nat.le_of_ble_eq_true rfl, Nat.le_of_ble_eq_true rfl⟩ ⟨Nat.zero_le _, Nat.zero_le _⟩ (Nat.le_of_ble_eq_true rfl) dX2_start_123 rfl hp9 (fun v9 h123 hq9 => ?_)
        obtain ⟨r123, rfl, hw⟩ := hq9
        obtain ⟨hp9, b126, hb9, hw⟩ := hw
        refine aw_getR (pc := 126) C (ci := 5) (k := 1) ci5 (by decide) tw46 dX2_start_126 rfl hp9 hb9 ?_
        refine aw_iload_n (pc := 129) C dX2_start_129 rfl rfl ?_
        obtain ⟨⟨k9, hp9⟩, hw⟩ := hw
        refine aw_iald (pc := 130) C dX2_start_130 hp9 ?_
        obtain ⟨⟨k9, hp9⟩, hw⟩ := hw
        refine aw_iast (pc := 131) C dX2_start_131 hp9 (aw_nmH (fun h131 e9 => ?_))
        have hw := hw h131 e9
        refine aw_aload_n (pc := 132) C dX2_start_132 rfl rfl ?_
        obtain ⟨hp9, b133, hb9, hw⟩ := hw
        refine aw_getR (pc := 133) C (ci := 2) (k := 9) ci2 (by decide) tw142 dX2_start_133 rfl hp9 hb9 ?_
        refine aw_aload_n (pc := 136) C dX2_start_136 rfl rfl ?_
        obtain ⟨hp9, b137, hb9, hw⟩ := hw
        refine aw_getR (pc := 137) C (ci := 2) (k := 7) ci2 (by decide) tw140 dX2_start_137 rfl hp9 hb9 ?_
        refine aw_iload_n (pc := 140) C dX2_start_140 rfl rfl ?_
        obtain ⟨⟨k9, hp9⟩, hw⟩ := hw
        refine aw_iald (pc := 141) C dX2_start_141 hp9 ?_
        refine aw_dup2 (pc := 142) C dX2_start_142 rfl rfl ?_
        obtain ⟨⟨k9, hp9⟩, hw⟩ := hw
        refine aw_iald (pc := 143) C dX2_start_143 hp9 ?_
        refine aw_iconst (pc := 144) C dX2_start_144 (i := (1 : Int)) (by decide) ?_
        obtain ⟨hp9, hw⟩ := hw
        refine aw_iadd (pc := 145) C dX2_start_145 hp9 ?_
        obtain ⟨⟨k9, hp9⟩, hw⟩ := hw
        refine aw_iast (pc := 146) C dX2_start_146 hp9 (aw_nmH (fun h146 e9 => ?_))
        have hw := hw h146 e9
        refine aw_aload_n (pc := 147) C dX2_start_147 rfl rfl ?_
        refine aw_dup (pc := 148) C dX2_start_148 rfl ?_
        obtain ⟨hp9, hw⟩ := hw
        refine aw_getI (pc := 149) C (ci := 2) (k := 12) ci2 (by decide) tw145 dX2_start_149 rfl hp9 ?_
        refine aw_aload_n (pc := 152) C dX2_start_152 rfl rfl ?_
        refine aw_iload_n (pc := 153) C dX2_start_153 rfl rfl ?_
        obtain ⟨hp9, hw⟩ := hw
        refine aw_callV (pc := 154) (as := [vI x1_57]) C ci2 (fun As hA => met_X2_isAway G l As a0 x1_57 _ _ hA hw) tw359 tw361 (tbp 10 (n := 13) (by decide +kernel)) tw8 tw362 ⟨rfl, rfl⟩ ⟨rfl, by decide, by decide, pd_X2_isAway⟩ ⟨Nat.le_of_ble_eq_true rfl, Nat.le_of_ble_eq_true rfl⟩ ⟨Nat.zero_le _, Nat.zero_le _⟩ (Nat.le_of_ble_eq_true rfl) dX2_start_154 rfl hp9 (fun v9 h154 hq9 => ?_)
        obtain ⟨r154, rfl, hw⟩ := hq9
        obtain ⟨k_165, hk_165, hw⟩ := jn_out hw
        have J_165 : ∀ (t2_165 : Int) (h_165 : AH), k_165 t2_165 h_165 → AW G p l e ({ frames := 1, cells := 0, slots := 0, locals := 23 } : Room) s m args below meth c 0 0 (MQ below (QG G (oV Q)) args s 0 0 (frA G)) 165 (eOf [(0, vR a0), (1, vI x1_57)]) [vI t2_165, vI (hfI h146 a0 12), vR a0] h_165 := by
          intro t2_165 h_165 hw
          rw [hk_165] at hw
          obtain ⟨hp9, hw⟩ := hw
          refine aw_iadd (pc := 165) C dX2_start_165 hp9 ?_
          obtain ⟨hp9, hw⟩ := hw
          refine aw_putI (pc := 166) C (ci := 2) (k := 12) ci2 (by decide) tw145 (Or.inl rfl) dX2_start_166 rfl hp9 (aw_nmH (fun h166 e9 => ?_))
          have hw := hw h166 e9
          refine aw_sub [(0, vR a0), (1, vI x1_57)] ⟨rfl, rfl, trivial⟩ ?_
          exact J_169  _ hw
        refine aw_if_eq (pc := 157) (tgt := 164) C dX2_start_157 (by decide) (fun hc9 => ?_) (fun hc9 => ?_)
        · have hw := hw.1 hc9
          refine aw_iconst (pc := 164) C dX2_start_164 (i := (0 : Int)) (by decide) ?_
          refine aw_sub [(0, vR a0), (1, vI x1_57)] ⟨rfl, rfl, trivial⟩ ?_
          exact J_165 _ _ hw
        · have hw := hw.2 hc9
          refine aw_iconst (pc := 160) C dX2_start_160 (i := (1 : Int)) (by decide) ?_
          refine aw_goto (pc := 161) (tgt := 165) C dX2_start_161 (by decide) ?_
          refine aw_sub [(0, vR a0), (1, vI x1_57)] ⟨rfl, rfl, trivial⟩ ?_
          exact J_165 _ _ hw
  refine aw_sub [(0, vR a0), (1, vI (0 : Int))] ⟨rfl, rfl, trivial⟩ ?_
  exact L_57 n9 _ _ hi9
theorem dX2_record_0 : decode cX2_record 0 = .ok (.aload_n 0, 1) := by decide +kernel
theorem dX2_record_1 : decode cX2_record 1 = .ok (.getfield 28, 3) := by decide +kernel
theorem dX2_record_4 : decode cX2_record 4 = .ok (.iconst 0, 1) := by decide +kernel
theorem dX2_record_5 : decode cX2_record 5 = .ok (.aload_n 0, 1) := by decide +kernel
theorem dX2_record_6 : decode cX2_record 6 = .ok (.getfield 40, 3) := by decide +kernel
theorem dX2_record_9 : decode cX2_record 9 = .ok (.iload_n 1, 1) := by decide +kernel
theorem dX2_record_10 : decode cX2_record 10 = .ok (.bipush 40, 2) := by decide +kernel
theorem dX2_record_12 : decode cX2_record 12 = .ok (.imul, 1) := by decide +kernel
theorem dX2_record_13 : decode cX2_record 13 = .ok (.bipush 40, 2) := by decide +kernel
theorem dX2_record_15 : decode cX2_record 15 = .ok (.invokestatic 99, 3) := by decide +kernel
theorem dX2_record_18 : decode cX2_record 18 = .ok (.return_, 1) := by decide +kernel
theorem pd_X2_record : (parseMethodDescriptor yX2_record.desc).map (fun d => d.parameters.length) = some 1 := by decide +kernel
def w_X2_record (zz : Nat → Nat) (a0 : Nat) (a1 : Int) (h : AH) (Q : AH → Prop) : Prop := okA h a0 2 ∧ ∃ b1 : Nat, hfR h a0 7 = some b1 ∧ okA h a0 2 ∧ ∃ b6 : Nat, hfR h a0 11 = some b6 ∧ inR (a1 * (40 : Int)) ∧ okC h b1 (0 : Int) b6 (a1 * (40 : Int)) (40 : Int) ∧ ∀ h15 : AH, h15 = saI h b6 (cpI (haI h b1) (haI h b6) (0 : Int) (a1 * (40 : Int)) (40 : Int)) → Q h15
set_option maxRecDepth 100000 in
set_option maxHeartbeats 4000000 in
theorem met_X2_record (G : GG) (l : Launch) : ∀ (As : List Value) (a0 : Nat) (a1 : Int) (h : AH) (Q : AH → Prop), As.map ab = List.map some ([vR a0, vI a1] : List AV) → w_X2_record G.2.2 a0 a1 h Q → Met l yX2_record (.code yX2_record cX2_record 2 none :: xTb) ({ frames := 1, cells := 0, slots := 0, locals := 40 } : Room) (PcA G As h) (QG G (oV Q)) 0 0 (frA G) := by
  intro As a0 a1 h Q hA hw
  refine met_of hA (by decide) (Nat.le_of_ble_eq_true rfl) (fun p e s m args below meth c C hml hr hnm => ?_)
  unfold w_X2_record at hw
  refine aw_aload_n (pc := 0) C dX2_record_0 rfl rfl ?_
  obtain ⟨hp9, b1, hb9, hw⟩ := hw
  refine aw_getR (pc := 1) C (ci := 2) (k := 7) ci2 (by decide) tw140 dX2_record_1 rfl hp9 hb9 ?_
  refine aw_iconst (pc := 4) C dX2_record_4 (i := (0 : Int)) (by decide) ?_
  refine aw_aload_n (pc := 5) C dX2_record_5 rfl rfl ?_
  obtain ⟨hp9, b6, hb9, hw⟩ := hw
  refine aw_getR (pc := 6) C (ci := 2) (k := 11) ci2 (by decide) tw144 dX2_record_6 rfl hp9 hb9 ?_
  refine aw_iload_n (pc := 9) C dX2_record_9 rfl rfl ?_
  refine aw_bipush (pc := 10) C dX2_record_10 (i := (40 : Int)) (by decide) ?_
  obtain ⟨hp9, hw⟩ := hw
  refine aw_imul (pc := 12) C dX2_record_12 hp9 ?_
  refine aw_bipush (pc := 13) C dX2_record_13 (i := (40 : Int)) (by decide) ?_
  obtain ⟨⟨ka9, kb9, ha9, hb9, hz9⟩, hw⟩ := hw
  refine aw_copy (pc := 15) C tw367 tw65 tw64 tw5 ⟨Nat.le_of_ble_eq_true rfl, Nat.le_of_ble_eq_true rfl⟩ (Nat.le_of_ble_eq_true rfl) dX2_record_15 ha9 hb9 hz9 (aw_nmH (fun h15 e9 => ?_))
  have hw := hw h15 e9
  exact aw_vret (pc := 18) C hr dX2_record_18 ⟨Nat.le_of_ble_eq_true rfl, Nat.le_of_ble_eq_true rfl⟩ ⟨rfl, hw⟩
theorem dX2_goesAlongRow_0 : decode cX2_goesAlongRow 0 = .ok (.aload_n 0, 1) := by decide +kernel
theorem dX2_goesAlongRow_1 : decode cX2_goesAlongRow 1 = .ok (.getfield 46, 3) := by decide +kernel
theorem dX2_goesAlongRow_4 : decode cX2_goesAlongRow 4 = .ok (.getfield 108, 3) := by decide +kernel
theorem dX2_goesAlongRow_7 : decode cX2_goesAlongRow 7 = .ok (.iconst 4, 1) := by decide +kernel
theorem dX2_goesAlongRow_8 : decode cX2_goesAlongRow 8 = .ok (.iaload, 1) := by decide +kernel
theorem dX2_goesAlongRow_9 : decode cX2_goesAlongRow 9 = .ok (.lookupswitch 47 #[(0, 27), (1, 37)], 27) := by decide +kernel
theorem dX2_goesAlongRow_36 : decode cX2_goesAlongRow 36 = .ok (.iload_n 1, 1) := by decide +kernel
theorem dX2_goesAlongRow_37 : decode cX2_goesAlongRow 37 = .ok (.ifCond .le 7, 3) := by decide +kernel
theorem dX2_goesAlongRow_40 : decode cX2_goesAlongRow 40 = .ok (.iconst 1, 1) := by decide +kernel
theorem dX2_goesAlongRow_41 : decode cX2_goesAlongRow 41 = .ok (.goto 4, 3) := by decide +kernel
theorem dX2_goesAlongRow_44 : decode cX2_goesAlongRow 44 = .ok (.iconst 0, 1) := by decide +kernel
theorem dX2_goesAlongRow_45 : decode cX2_goesAlongRow 45 = .ok (.ireturn, 1) := by decide +kernel
theorem dX2_goesAlongRow_46 : decode cX2_goesAlongRow 46 = .ok (.iload_n 2, 1) := by decide +kernel
theorem dX2_goesAlongRow_47 : decode cX2_goesAlongRow 47 = .ok (.ifCond .ne 7, 3) := by decide +kernel
theorem dX2_goesAlongRow_50 : decode cX2_goesAlongRow 50 = .ok (.iconst 1, 1) := by decide +kernel
theorem dX2_goesAlongRow_51 : decode cX2_goesAlongRow 51 = .ok (.goto 4, 3) := by decide +kernel
theorem dX2_goesAlongRow_54 : decode cX2_goesAlongRow 54 = .ok (.iconst 0, 1) := by decide +kernel
theorem dX2_goesAlongRow_55 : decode cX2_goesAlongRow 55 = .ok (.ireturn, 1) := by decide +kernel
theorem dX2_goesAlongRow_56 : decode cX2_goesAlongRow 56 = .ok (.iload_n 1, 1) := by decide +kernel
theorem dX2_goesAlongRow_57 : decode cX2_goesAlongRow 57 = .ok (.iload_n 2, 1) := by decide +kernel
theorem dX2_goesAlongRow_58 : decode cX2_goesAlongRow 58 = .ok (.if_icmp .lt 7, 3) := by decide +kernel
theorem dX2_goesAlongRow_61 : decode cX2_goesAlongRow 61 = .ok (.iconst 1, 1) := by decide +kernel
theorem dX2_goesAlongRow_62 : decode cX2_goesAlongRow 62 = .ok (.goto 4, 3) := by decide +kernel
theorem dX2_goesAlongRow_65 : decode cX2_goesAlongRow 65 = .ok (.iconst 0, 1) := by decide +kernel
theorem dX2_goesAlongRow_66 : decode cX2_goesAlongRow 66 = .ok (.ireturn, 1) := by decide +kernel
theorem pd_X2_goesAlongRow : (parseMethodDescriptor yX2_goesAlongRow.desc).map (fun d => d.parameters.length) = some 2 := by decide +kernel
def w_X2_goesAlongRow (zz : Nat → Nat) (a0 : Nat) (a1 : Int) (a2 : Int) (h : AH) (Q : Int → AH → Prop) : Prop := okA h a0 2 ∧ ∃ b1 : Nat, hfR h a0 5 = some b1 ∧ okA h b1 4 ∧ ∃ b4 : Nat, hfR h b1 0 = some b4 ∧ okI h b4 (4 : Int) ∧ ((haI h b4 (4 : Int)) = 0 → jn (fun (t0_45 : Int) (h_45 : AH) => (t0_45 = 0 ∨ t0_45 = 1) ∧ Q t0_45 h_45) (fun k_45 : Int → AH → Prop => ((a1 ≤ 0) → k_45 (0 : Int) h) ∧ ((¬ (a1 ≤ 0)) → k_45 (1 : Int) h))) ∧ ((haI h b4 (4 : Int)) = 1 → jn (fun (t0_55 : Int) (h_55 : AH) => (t0_55 = 0 ∨ t0_55 = 1) ∧ Q t0_55 h_55) (fun k_55 : Int → AH → Prop => ((¬ a2 = 0) → k_55 (0 : Int) h) ∧ ((a2 = 0) → k_55 (1 : Int) h))) ∧ ((¬ (haI h b4 (4 : Int)) = 0 ∧ ¬ (haI h b4 (4 : Int)) = 1) → jn (fun (t0_66 : Int) (h_66 : AH) => (t0_66 = 0 ∨ t0_66 = 1) ∧ Q t0_66 h_66) (fun k_66 : Int → AH → Prop => ((a1 < a2) → k_66 (0 : Int) h) ∧ ((¬ (a1 < a2)) → k_66 (1 : Int) h)))
set_option maxRecDepth 100000 in
set_option maxHeartbeats 4000000 in
theorem met_X2_goesAlongRow (G : GG) (l : Launch) : ∀ (As : List Value) (a0 : Nat) (a1 : Int) (a2 : Int) (h : AH) (Q : Int → AH → Prop), As.map ab = List.map some ([vR a0, vI a1, vI a2] : List AV) → w_X2_goesAlongRow G.2.2 a0 a1 a2 h Q → Met l yX2_goesAlongRow (.code yX2_goesAlongRow cX2_goesAlongRow 3 (some .boolean) :: xTb) ({ frames := 0, cells := 0, slots := 0, locals := 0 } : Room) (PcA G As h) (QG G (oI Q)) 0 0 (frA G) := by
  intro As a0 a1 a2 h Q hA hw
  refine met_of hA (by decide) (Nat.le_of_ble_eq_true rfl) (fun p e s m args below meth c C hml hr hnm => ?_)
  unfold w_X2_goesAlongRow at hw
  refine aw_aload_n (pc := 0) C dX2_goesAlongRow_0 rfl rfl ?_
  obtain ⟨hp9, b1, hb9, hw⟩ := hw
  refine aw_getR (pc := 1) C (ci := 2) (k := 5) ci2 (by decide) tw138 dX2_goesAlongRow_1 rfl hp9 hb9 ?_
  obtain ⟨hp9, b4, hb9, hw⟩ := hw
  refine aw_getR (pc := 4) C (ci := 4) (k := 0) ci4 (by decide) tw70 dX2_goesAlongRow_4 rfl hp9 hb9 ?_
  refine aw_iconst (pc := 7) C dX2_goesAlongRow_7 (i := (4 : Int)) (by decide) ?_
  obtain ⟨⟨k9, hp9⟩, hw⟩ := hw
  refine aw_iald (pc := 8) C dX2_goesAlongRow_8 hp9 ?_
  have hcs9 : (haI h b4 (4 : Int)) = 0 ∨ (haI h b4 (4 : Int)) = 1 ∨ (¬ (haI h b4 (4 : Int)) = 0 ∧ ¬ (haI h b4 (4 : Int)) = 1) := by omega
  rcases hcs9 with hc9 | hc9 | hc9
  · have hw := hw.1 hc9
    refine aw_lookup (pc := 9) (off := 27) (tgt := 36) C dX2_goesAlongRow_9 (by decide) (by rw [hc9]; rfl) (by decide) ?_
    refine aw_iload_n (pc := 36) C dX2_goesAlongRow_36 rfl rfl ?_
    obtain ⟨k_45, hk_45, hw⟩ := jn_out hw
    have J_45 : ∀ (t0_45 : Int) (h_45 : AH), k_45 t0_45 h_45 → AW G p l e ({ frames := 0, cells := 0, slots := 0, locals := 0 } : Room) s m args below meth c 0 0 (MQ below (QG G (oI Q)) args s 0 0 (frA G)) 45 (eOf []) [vI t0_45] h_45 := by
      intro t0_45 h_45 hw
      rw [hk_45] at hw
      obtain ⟨hp9, hw⟩ := hw
      exact aw_zret (pc := 45) C hr dX2_goesAlongRow_45 ⟨Nat.le_of_ble_eq_true rfl, Nat.le_of_ble_eq_true rfl⟩ hp9 ⟨_, rfl, hw⟩
    refine aw_if_le (pc := 37) (tgt := 44) C dX2_goesAlongRow_37 (by decide) (fun hc9 => ?_) (fun hc9 => ?_)
    · have hw := hw.1 hc9
      refine aw_iconst (pc := 44) C dX2_goesAlongRow_44 (i := (0 : Int)) (by decide) ?_
      refine aw_sub [] trivial ?_
      exact J_45 _ _ hw
    · have hw := hw.2 hc9
      refine aw_iconst (pc := 40) C dX2_goesAlongRow_40 (i := (1 : Int)) (by decide) ?_
      refine aw_goto (pc := 41) (tgt := 45) C dX2_goesAlongRow_41 (by decide) ?_
      refine aw_sub [] trivial ?_
      exact J_45 _ _ hw
  · have hw := hw.2.1 hc9
    refine aw_lookup (pc := 9) (off := 37) (tgt := 46) C dX2_goesAlongRow_9 (by decide) (by rw [hc9]; rfl) (by decide) ?_
    refine aw_iload_n (pc := 46) C dX2_goesAlongRow_46 rfl rfl ?_
    obtain ⟨k_55, hk_55, hw⟩ := jn_out hw
    have J_55 : ∀ (t0_55 : Int) (h_55 : AH), k_55 t0_55 h_55 → AW G p l e ({ frames := 0, cells := 0, slots := 0, locals := 0 } : Room) s m args below meth c 0 0 (MQ below (QG G (oI Q)) args s 0 0 (frA G)) 55 (eOf []) [vI t0_55] h_55 := by
      intro t0_55 h_55 hw
      rw [hk_55] at hw
      obtain ⟨hp9, hw⟩ := hw
      exact aw_zret (pc := 55) C hr dX2_goesAlongRow_55 ⟨Nat.le_of_ble_eq_true rfl, Nat.le_of_ble_eq_true rfl⟩ hp9 ⟨_, rfl, hw⟩
    refine aw_if_ne (pc := 47) (tgt := 54) C dX2_goesAlongRow_47 (by decide) (fun hc9 => ?_) (fun hc9 => ?_)
    · have hw := hw.1 hc9
      refine aw_iconst (pc := 54) C dX2_goesAlongRow_54 (i := (0 : Int)) (by decide) ?_
      refine aw_sub [] trivial ?_
      exact J_55 _ _ hw
    · have hw := hw.2 hc9
      refine aw_iconst (pc := 50) C dX2_goesAlongRow_50 (i := (1 : Int)) (by decide) ?_
      refine aw_goto (pc := 51) (tgt := 55) C dX2_goesAlongRow_51 (by decide) ?_
      refine aw_sub [] trivial ?_
      exact J_55 _ _ hw
  · have hw := hw.2.2 hc9
    refine aw_lookup (pc := 9) (off := 47) (tgt := 56) C dX2_goesAlongRow_9 (by decide) (by rw [Op.lookupswitch.offset_cons, if_neg (by omega)]; rw [Op.lookupswitch.offset_cons, if_neg (by omega)]; rfl) (by decide) ?_
    refine aw_iload_n (pc := 56) C dX2_goesAlongRow_56 rfl rfl ?_
    refine aw_iload_n (pc := 57) C dX2_goesAlongRow_57 rfl rfl ?_
    obtain ⟨k_66, hk_66, hw⟩ := jn_out hw
    have J_66 : ∀ (t0_66 : Int) (h_66 : AH), k_66 t0_66 h_66 → AW G p l e ({ frames := 0, cells := 0, slots := 0, locals := 0 } : Room) s m args below meth c 0 0 (MQ below (QG G (oI Q)) args s 0 0 (frA G)) 66 (eOf []) [vI t0_66] h_66 := by
      intro t0_66 h_66 hw
      rw [hk_66] at hw
      obtain ⟨hp9, hw⟩ := hw
      exact aw_zret (pc := 66) C hr dX2_goesAlongRow_66 ⟨Nat.le_of_ble_eq_true rfl, Nat.le_of_ble_eq_true rfl⟩ hp9 ⟨_, rfl, hw⟩
    refine aw_icmp_lt (pc := 58) (tgt := 65) C dX2_goesAlongRow_58 (by decide) (fun hc9 => ?_) (fun hc9 => ?_)
    · have hw := hw.1 hc9
      refine aw_iconst (pc := 65) C dX2_goesAlongRow_65 (i := (0 : Int)) (by decide) ?_
      refine aw_sub [] trivial ?_
      exact J_66 _ _ hw
    · have hw := hw.2 hc9
      refine aw_iconst (pc := 61) C dX2_goesAlongRow_61 (i := (1 : Int)) (by decide) ?_
      refine aw_goto (pc := 62) (tgt := 66) C dX2_goesAlongRow_62 (by decide) ?_
      refine aw_sub [] trivial ?_
      exact J_66 _ _ hw
theorem dX2_nextCell_0 : decode cX2_nextCell 0 = .ok (.iload_n 2, 1) := by decide +kernel
theorem dX2_nextCell_1 : decode cX2_nextCell 1 = .ok (.bipush 16, 2) := by decide +kernel
theorem dX2_nextCell_3 : decode cX2_nextCell 3 = .ok (.irem, 1) := by decide +kernel
theorem dX2_nextCell_4 : decode cX2_nextCell 4 = .ok (.iload_n 1, 1) := by decide +kernel
theorem dX2_nextCell_5 : decode cX2_nextCell 5 = .ok (.bipush 16, 2) := by decide +kernel
theorem dX2_nextCell_7 : decode cX2_nextCell 7 = .ok (.irem, 1) := by decide +kernel
theorem dX2_nextCell_8 : decode cX2_nextCell 8 = .ok (.isub, 1) := by decide +kernel
theorem dX2_nextCell_9 : decode cX2_nextCell 9 = .ok (.istore_n 3, 1) := by decide +kernel
theorem dX2_nextCell_10 : decode cX2_nextCell 10 = .ok (.iload_n 2, 1) := by decide +kernel
theorem dX2_nextCell_11 : decode cX2_nextCell 11 = .ok (.bipush 16, 2) := by decide +kernel
theorem dX2_nextCell_13 : decode cX2_nextCell 13 = .ok (.idiv, 1) := by decide +kernel
theorem dX2_nextCell_14 : decode cX2_nextCell 14 = .ok (.iload_n 1, 1) := by decide +kernel
theorem dX2_nextCell_15 : decode cX2_nextCell 15 = .ok (.bipush 16, 2) := by decide +kernel
theorem dX2_nextCell_17 : decode cX2_nextCell 17 = .ok (.idiv, 1) := by decide +kernel
theorem dX2_nextCell_18 : decode cX2_nextCell 18 = .ok (.isub, 1) := by decide +kernel
theorem dX2_nextCell_19 : decode cX2_nextCell 19 = .ok (.istore 4, 2) := by decide +kernel
theorem dX2_nextCell_21 : decode cX2_nextCell 21 = .ok (.aload_n 0, 1) := by decide +kernel
theorem dX2_nextCell_22 : decode cX2_nextCell 22 = .ok (.iload_n 3, 1) := by decide +kernel
theorem dX2_nextCell_23 : decode cX2_nextCell 23 = .ok (.invokestatic 111, 3) := by decide +kernel
theorem dX2_nextCell_26 : decode cX2_nextCell 26 = .ok (.iload 4, 2) := by decide +kernel
theorem dX2_nextCell_28 : decode cX2_nextCell 28 = .ok (.invokestatic 111, 3) := by decide +kernel
theorem dX2_nextCell_31 : decode cX2_nextCell 31 = .ok (.invokevirtual 117, 3) := by decide +kernel
theorem dX2_nextCell_34 : decode cX2_nextCell 34 = .ok (.ifCond .eq 17, 3) := by decide +kernel
theorem dX2_nextCell_37 : decode cX2_nextCell 37 = .ok (.iload_n 3, 1) := by decide +kernel
theorem dX2_nextCell_38 : decode cX2_nextCell 38 = .ok (.ifCond .le 9, 3) := by decide +kernel
theorem dX2_nextCell_41 : decode cX2_nextCell 41 = .ok (.iload_n 1, 1) := by decide +kernel
theorem dX2_nextCell_42 : decode cX2_nextCell 42 = .ok (.iconst 1, 1) := by decide +kernel
theorem dX2_nextCell_43 : decode cX2_nextCell 43 = .ok (.iadd, 1) := by decide +kernel
theorem dX2_nextCell_44 : decode cX2_nextCell 44 = .ok (.goto 6, 3) := by decide +kernel
theorem dX2_nextCell_47 : decode cX2_nextCell 47 = .ok (.iload_n 1, 1) := by decide +kernel
theorem dX2_nextCell_48 : decode cX2_nextCell 48 = .ok (.iconst 1, 1) := by decide +kernel
theorem dX2_nextCell_49 : decode cX2_nextCell 49 = .ok (.isub, 1) := by decide +kernel
theorem dX2_nextCell_50 : decode cX2_nextCell 50 = .ok (.ireturn, 1) := by decide +kernel
theorem dX2_nextCell_51 : decode cX2_nextCell 51 = .ok (.iload 4, 2) := by decide +kernel
theorem dX2_nextCell_53 : decode cX2_nextCell 53 = .ok (.ifCond .le 10, 3) := by decide +kernel
theorem dX2_nextCell_56 : decode cX2_nextCell 56 = .ok (.iload_n 1, 1) := by decide +kernel
theorem dX2_nextCell_57 : decode cX2_nextCell 57 = .ok (.bipush 16, 2) := by decide +kernel
theorem dX2_nextCell_59 : decode cX2_nextCell 59 = .ok (.iadd, 1) := by decide +kernel
theorem dX2_nextCell_60 : decode cX2_nextCell 60 = .ok (.goto 7, 3) := by decide +kernel
theorem dX2_nextCell_63 : decode cX2_nextCell 63 = .ok (.iload_n 1, 1) := by decide +kernel
theorem dX2_nextCell_64 : decode cX2_nextCell 64 = .ok (.bipush 16, 2) := by decide +kernel
theorem dX2_nextCell_66 : decode cX2_nextCell 66 = .ok (.isub, 1) := by decide +kernel
theorem dX2_nextCell_67 : decode cX2_nextCell 67 = .ok (.ireturn, 1) := by decide +kernel
theorem pd_X2_nextCell : (parseMethodDescriptor yX2_nextCell.desc).map (fun d => d.parameters.length) = some 2 := by decide +kernel
def w_X2_nextCell (zz : Nat → Nat) (a0 : Nat) (a1 : Int) (a2 : Int) (h : AH) (Q : Int → AH → Prop) : Prop := (0 ≤ a2 ∧ 0 < (16 : Int)) ∧ (0 ≤ a1 ∧ 0 < (16 : Int)) ∧ inR ((a2 % (16 : Int)) - (a1 % (16 : Int))) ∧ ∀ x3_9 : Int, x3_9 = ((a2 % (16 : Int)) - (a1 % (16 : Int))) → (0 ≤ a2 ∧ 0 < (16 : Int)) ∧ (0 ≤ a1 ∧ 0 < (16 : Int)) ∧ inR ((a2 / (16 : Int)) - (a1 / (16 : Int))) ∧ ∀ x4_19 : Int, x4_19 = ((a2 / (16 : Int)) - (a1 / (16 : Int))) → inR (0 - x3_9) ∧ inR (0 - x4_19) ∧ okA h a0 2 ∧ w_X2_goesAlongRow zz a0 (if 0 ≤ x3_9 then x3_9 else 0 - x3_9) (if 0 ≤ x4_19 then x4_19 else 0 - x4_19) h (fun (r31 : Int) (h31 : AH) => ((r31 = 0) → jn (fun (t0_67 : Int) (h_67 : AH) => Q t0_67 h_67) (fun k_67 : Int → AH → Prop => ((x4_19 ≤ 0) → inR (a1 - (16 : Int)) ∧ k_67 (a1 - (16 : Int)) h31) ∧ ((¬ (x4_19 ≤ 0)) → inR (a1 + (16 : Int)) ∧ k_67 (a1 + (16 : Int)) h31))) ∧ ((¬ (r31 = 0)) → jn (fun (t0_50 : Int) (h_50 : AH) => Q t0_50 h_50) (fun k_50 : Int → AH → Prop => ((x3_9 ≤ 0) → inR (a1 - (1 : Int)) ∧ k_50 (a1 - (1 : Int)) h31) ∧ ((¬ (x3_9 ≤ 0)) → inR (a1 + (1 : Int)) ∧ k_50 (a1 + (1 : Int)) h31))))
set_option maxRecDepth 100000 in
set_option maxHeartbeats 4000000 in
theorem met_X2_nextCell (G : GG) (l : Launch) : ∀ (As : List Value) (a0 : Nat) (a1 : Int) (a2 : Int) (h : AH) (Q : Int → AH → Prop), As.map ab = List.map some ([vR a0, vI a1, vI a2] : List AV) → w_X2_nextCell G.2.2 a0 a1 a2 h Q → Met l yX2_nextCell (.code yX2_nextCell cX2_nextCell 5 (some .int) :: xTb) ({ frames := 1, cells := 0, slots := 0, locals := 22 } : Room) (PcA G As h) (QG G (oI Q)) 0 0 (frA G) := by
  intro As a0 a1 a2 h Q hA hw
  refine met_of hA (by decide) (Nat.le_of_ble_eq_true rfl) (fun p e s m args below meth c C hml hr hnm => ?_)
  unfold w_X2_nextCell at hw
  refine aw_iload_n (pc := 0) C dX2_nextCell_0 rfl rfl ?_
  refine aw_bipush (pc := 1) C dX2_nextCell_1 (i := (16 : Int)) (by decide) ?_
  obtain ⟨hp9, hw⟩ := hw
  refine aw_irem (pc := 3) C dX2_nextCell_3 hp9 ?_
  refine aw_iload_n (pc := 4) C dX2_nextCell_4 rfl rfl ?_
  refine aw_bipush (pc := 5) C dX2_nextCell_5 (i := (16 : Int)) (by decide) ?_
  obtain ⟨hp9, hw⟩ := hw
  refine aw_irem (pc := 7) C dX2_nextCell_7 hp9 ?_
  obtain ⟨hp9, hw⟩ := hw
  refine aw_isub (pc := 8) C dX2_nextCell_8 hp9 ?_
  refine aw_nmI (fun x3_9 e9 => ?_)
  have hw := hw x3_9 e9
  refine aw_istore_n (pc := 9) C dX2_nextCell_9 rfl (by rw [hml]; decide) ?_
  refine aw_iload_n (pc := 10) C dX2_nextCell_10 rfl rfl ?_
  refine aw_bipush (pc := 11) C dX2_nextCell_11 (i := (16 : Int)) (by decide) ?_
  obtain ⟨hp9, hw⟩ := hw
  refine aw_idiv (pc := 13) C dX2_nextCell_13 hp9 ?_
  refine aw_iload_n (pc := 14) C dX2_nextCell_14 rfl rfl ?_
  refine aw_bipush (pc := 15) C dX2_nextCell_15 (i := (16 : Int)) (by decide) ?_
  obtain ⟨hp9, hw⟩ := hw
  refine aw_idiv (pc := 17) C dX2_nextCell_17 hp9 ?_
  obtain ⟨hp9, hw⟩ := hw
  refine aw_isub (pc := 18) C dX2_nextCell_18 hp9 ?_
  refine aw_nmI (fun x4_19 e9 => ?_)
  have hw := hw x4_19 e9
  refine aw_istore (pc := 19) C dX2_nextCell_19 (by rw [hml]; decide) ?_
  refine aw_aload_n (pc := 21) C dX2_nextCell_21 rfl rfl ?_
  refine aw_iload_n (pc := 22) C dX2_nextCell_22 rfl rfl ?_
  obtain ⟨hp9, hw⟩ := hw
  refine aw_mabs (pc := 23) C tw376 tw347 tw17 tw348 ⟨Nat.le_of_ble_eq_true rfl, Nat.le_of_ble_eq_true rfl, Nat.zero_le _, Nat.zero_le _⟩ (Nat.le_of_ble_eq_true rfl) dX2_nextCell_23 hp9 ?_
  refine aw_iload (pc := 26) C dX2_nextCell_26 rfl ?_
  obtain ⟨hp9, hw⟩ := hw
  refine aw_mabs (pc := 28) C tw376 tw347 tw17 tw348 ⟨Nat.le_of_ble_eq_true rfl, Nat.le_of_ble_eq_true rfl, Nat.zero_le _, Nat.zero_le _⟩ (Nat.le_of_ble_eq_true rfl) dX2_nextCell_28 hp9 ?_
  obtain ⟨hp9, hw⟩ := hw
  refine aw_callV (pc := 31) (as := [vI (if 0 ≤ x3_9 then x3_9 else 0 - x3_9), vI (if 0 ≤ x4_19 then x4_19 else 0 - x4_19)]) C ci2 (fun As hA => met_X2_goesAlongRow G l As a0 (if 0 ≤ x3_9 then x3_9 else 0 - x3_9) (if 0 ≤ x4_19 then x4_19 else 0 - x4_19) _ _ hA hw) tw377 tw379 (tbp 14 (n := 13) (by decide +kernel)) tw8 tw380 ⟨rfl, rfl⟩ ⟨rfl, by decide, by decide, pd_X2_goesAlongRow⟩ ⟨Nat.le_of_ble_eq_true rfl, Nat.le_of_ble_eq_true rfl⟩ ⟨Nat.zero_le _, Nat.zero_le _⟩ (Nat.le_of_ble_eq_true rfl) dX2_nextCell_31 rfl hp9 (fun v9 h31 hq9 => ?_)
  obtain ⟨r31, rfl, hw⟩ := hq9
  refine aw_if_eq (pc := 34) (tgt := 51) C dX2_nextCell_34 (by decide) (fun hc9 => ?_) (fun hc9 => ?_)
  · have hw := hw.1 hc9
    refine aw_iload (pc := 51) C dX2_nextCell_51 rfl ?_
    obtain ⟨k_67, hk_67, hw⟩ := jn_out hw
    have J_67 : ∀ (t0_67 : Int) (h_67 : AH), k_67 t0_67 h_67 → AW G p l e ({ frames := 1, cells := 0, slots := 0, locals := 22 } : Room) s m args below meth c 0 0 (MQ below (QG G (oI Q)) args s 0 0 (frA G)) 67 (eOf []) [vI t0_67] h_67 := by
      intro t0_67 h_67 hw
      rw [hk_67] at hw
      exact aw_iret (pc := 67) C hr dX2_nextCell_67 ⟨Nat.le_of_ble_eq_true rfl, Nat.le_of_ble_eq_true rfl⟩ ⟨_, rfl, hw⟩
    refine aw_if_le (pc := 53) (tgt := 63) C dX2_nextCell_53 (by decide) (fun hc9 => ?_) (fun hc9 => ?_)
    · have hw := hw.1 hc9
      refine aw_iload_n (pc := 63) C dX2_nextCell_63 rfl rfl ?_
      refine aw_bipush (pc := 64) C dX2_nextCell_64 (i := (16 : Int)) (by decide) ?_
      obtain ⟨hp9, hw⟩ := hw
      refine aw_isub (pc := 66) C dX2_nextCell_66 hp9 ?_
      refine aw_sub [] trivial ?_
      exact J_67 _ _ hw
    · have hw := hw.2 hc9
      refine aw_iload_n (pc := 56) C dX2_nextCell_56 rfl rfl ?_
      refine aw_bipush (pc := 57) C dX2_nextCell_57 (i := (16 : Int)) (by decide) ?_
      obtain ⟨hp9, hw⟩ := hw
      refine aw_iadd (pc := 59) C dX2_nextCell_59 hp9 ?_
      refine aw_goto (pc := 60) (tgt := 67) C dX2_nextCell_60 (by decide) ?_
      refine aw_sub [] trivial ?_
      exact J_67 _ _ hw
  · have hw := hw.2 hc9
    refine aw_iload_n (pc := 37) C dX2_nextCell_37 rfl rfl ?_
    obtain ⟨k_50, hk_50, hw⟩ := jn_out hw
    have J_50 : ∀ (t0_50 : Int) (h_50 : AH), k_50 t0_50 h_50 → AW G p l e ({ frames := 1, cells := 0, slots := 0, locals := 22 } : Room) s m args below meth c 0 0 (MQ below (QG G (oI Q)) args s 0 0 (frA G)) 50 (eOf []) [vI t0_50] h_50 := by
      intro t0_50 h_50 hw
      rw [hk_50] at hw
      exact aw_iret (pc := 50) C hr dX2_nextCell_50 ⟨Nat.le_of_ble_eq_true rfl, Nat.le_of_ble_eq_true rfl⟩ ⟨_, rfl, hw⟩
    refine aw_if_le (pc := 38) (tgt := 47) C dX2_nextCell_38 (by decide) (fun hc9 => ?_) (fun hc9 => ?_)
    · have hw := hw.1 hc9
      refine aw_iload_n (pc := 47) C dX2_nextCell_47 rfl rfl ?_
      refine aw_iconst (pc := 48) C dX2_nextCell_48 (i := (1 : Int)) (by decide) ?_
      obtain ⟨hp9, hw⟩ := hw
      refine aw_isub (pc := 49) C dX2_nextCell_49 hp9 ?_
      refine aw_sub [] trivial ?_
      exact J_50 _ _ hw
    · have hw := hw.2 hc9
      refine aw_iload_n (pc := 41) C dX2_nextCell_41 rfl rfl ?_
      refine aw_iconst (pc := 42) C dX2_nextCell_42 (i := (1 : Int)) (by decide) ?_
      obtain ⟨hp9, hw⟩ := hw
      refine aw_iadd (pc := 43) C dX2_nextCell_43 hp9 ?_
      refine aw_goto (pc := 44) (tgt := 50) C dX2_nextCell_44 (by decide) ?_
      refine aw_sub [] trivial ?_
      exact J_50 _ _ hw
theorem dX2_moveOrHold_0 : decode cX2_moveOrHold 0 = .ok (.aload_n 0, 1) := by decide +kernel
theorem dX2_moveOrHold_1 : decode cX2_moveOrHold 1 = .ok (.aload_n 0, 1) := by decide +kernel
theorem dX2_moveOrHold_2 : decode cX2_moveOrHold 2 = .ok (.getfield 28, 3) := by decide +kernel
theorem dX2_moveOrHold_5 : decode cX2_moveOrHold 5 = .ok (.iload_n 1, 1) := by decide +kernel
theorem dX2_moveOrHold_6 : decode cX2_moveOrHold 6 = .ok (.iaload, 1) := by decide +kernel
theorem dX2_moveOrHold_7 : decode cX2_moveOrHold 7 = .ok (.aload_n 0, 1) := by decide +kernel
theorem dX2_moveOrHold_8 : decode cX2_moveOrHold 8 = .ok (.getfield 9, 3) := by decide +kernel
theorem dX2_moveOrHold_11 : decode cX2_moveOrHold 11 = .ok (.iload_n 1, 1) := by decide +kernel
theorem dX2_moveOrHold_12 : decode cX2_moveOrHold 12 = .ok (.iaload, 1) := by decide +kernel
theorem dX2_moveOrHold_13 : decode cX2_moveOrHold 13 = .ok (.invokevirtual 105, 3) := by decide +kernel
theorem dX2_moveOrHold_16 : decode cX2_moveOrHold 16 = .ok (.istore_n 3, 1) := by decide +kernel
theorem dX2_moveOrHold_17 : decode cX2_moveOrHold 17 = .ok (.aload_n 0, 1) := by decide +kernel
theorem dX2_moveOrHold_18 : decode cX2_moveOrHold 18 = .ok (.getfield 34, 3) := by decide +kernel
theorem dX2_moveOrHold_21 : decode cX2_moveOrHold 21 = .ok (.iload_n 3, 1) := by decide +kernel
theorem dX2_moveOrHold_22 : decode cX2_moveOrHold 22 = .ok (.iaload, 1) := by decide +kernel
theorem dX2_moveOrHold_23 : decode cX2_moveOrHold 23 = .ok (.ifCond .le 62, 3) := by decide +kernel
theorem dX2_moveOrHold_26 : decode cX2_moveOrHold 26 = .ok (.aload_n 0, 1) := by decide +kernel
theorem dX2_moveOrHold_27 : decode cX2_moveOrHold 27 = .ok (.getfield 31, 3) := by decide +kernel
theorem dX2_moveOrHold_30 : decode cX2_moveOrHold 30 = .ok (.iload_n 1, 1) := by decide +kernel
theorem dX2_moveOrHold_31 : decode cX2_moveOrHold 31 = .ok (.iaload, 1) := by decide +kernel
theorem dX2_moveOrHold_32 : decode cX2_moveOrHold 32 = .ok (.aload_n 0, 1) := by decide +kernel
theorem dX2_moveOrHold_33 : decode cX2_moveOrHold 33 = .ok (.getfield 46, 3) := by decide +kernel
theorem dX2_moveOrHold_36 : decode cX2_moveOrHold 36 = .ok (.getfield 108, 3) := by decide +kernel
theorem dX2_moveOrHold_39 : decode cX2_moveOrHold 39 = .ok (.iconst 5, 1) := by decide +kernel
theorem dX2_moveOrHold_40 : decode cX2_moveOrHold 40 = .ok (.iaload, 1) := by decide +kernel
theorem dX2_moveOrHold_41 : decode cX2_moveOrHold 41 = .ok (.if_icmp .ge 44, 3) := by decide +kernel
theorem dX2_moveOrHold_44 : decode cX2_moveOrHold 44 = .ok (.aload_n 0, 1) := by decide +kernel
theorem dX2_moveOrHold_45 : decode cX2_moveOrHold 45 = .ok (.getfield 31, 3) := by decide +kernel
theorem dX2_moveOrHold_48 : decode cX2_moveOrHold 48 = .ok (.iload_n 1, 1) := by decide +kernel
theorem dX2_moveOrHold_49 : decode cX2_moveOrHold 49 = .ok (.dup2, 1) := by decide +kernel
theorem dX2_moveOrHold_50 : decode cX2_moveOrHold 50 = .ok (.iaload, 1) := by decide +kernel
theorem dX2_moveOrHold_51 : decode cX2_moveOrHold 51 = .ok (.iconst 1, 1) := by decide +kernel
theorem dX2_moveOrHold_52 : decode cX2_moveOrHold 52 = .ok (.iadd, 1) := by decide +kernel
theorem dX2_moveOrHold_53 : decode cX2_moveOrHold 53 = .ok (.iastore, 1) := by decide +kernel
theorem dX2_moveOrHold_54 : decode cX2_moveOrHold 54 = .ok (.aload_n 0, 1) := by decide +kernel
theorem dX2_moveOrHold_55 : decode cX2_moveOrHold 55 = .ok (.getfield 15, 3) := by decide +kernel
theorem dX2_moveOrHold_58 : decode cX2_moveOrHold 58 = .ok (.iload_n 1, 1) := by decide +kernel
theorem dX2_moveOrHold_59 : decode cX2_moveOrHold 59 = .ok (.dup2, 1) := by decide +kernel
theorem dX2_moveOrHold_60 : decode cX2_moveOrHold 60 = .ok (.iaload, 1) := by decide +kernel
theorem dX2_moveOrHold_61 : decode cX2_moveOrHold 61 = .ok (.iconst 1, 1) := by decide +kernel
theorem dX2_moveOrHold_62 : decode cX2_moveOrHold 62 = .ok (.iadd, 1) := by decide +kernel
theorem dX2_moveOrHold_63 : decode cX2_moveOrHold 63 = .ok (.iastore, 1) := by decide +kernel
theorem dX2_moveOrHold_64 : decode cX2_moveOrHold 64 = .ok (.aload_n 0, 1) := by decide +kernel
theorem dX2_moveOrHold_65 : decode cX2_moveOrHold 65 = .ok (.getfield 37, 3) := by decide +kernel
theorem dX2_moveOrHold_68 : decode cX2_moveOrHold 68 = .ok (.iload_n 2, 1) := by decide +kernel
theorem dX2_moveOrHold_69 : decode cX2_moveOrHold 69 = .ok (.dup2, 1) := by decide +kernel
theorem dX2_moveOrHold_70 : decode cX2_moveOrHold 70 = .ok (.iaload, 1) := by decide +kernel
theorem dX2_moveOrHold_71 : decode cX2_moveOrHold 71 = .ok (.iconst 1, 1) := by decide +kernel
theorem dX2_moveOrHold_72 : decode cX2_moveOrHold 72 = .ok (.iadd, 1) := by decide +kernel
theorem dX2_moveOrHold_73 : decode cX2_moveOrHold 73 = .ok (.iastore, 1) := by decide +kernel
theorem dX2_moveOrHold_74 : decode cX2_moveOrHold 74 = .ok (.aload_n 0, 1) := by decide +kernel
theorem dX2_moveOrHold_75 : decode cX2_moveOrHold 75 = .ok (.dup, 1) := by decide +kernel
theorem dX2_moveOrHold_76 : decode cX2_moveOrHold 76 = .ok (.getfield 25, 3) := by decide +kernel
theorem dX2_moveOrHold_79 : decode cX2_moveOrHold 79 = .ok (.iconst 1, 1) := by decide +kernel
theorem dX2_moveOrHold_80 : decode cX2_moveOrHold 80 = .ok (.iadd, 1) := by decide +kernel
theorem dX2_moveOrHold_81 : decode cX2_moveOrHold 81 = .ok (.putfield 25, 3) := by decide +kernel
theorem dX2_moveOrHold_84 : decode cX2_moveOrHold 84 = .ok (.return_, 1) := by decide +kernel
theorem dX2_moveOrHold_85 : decode cX2_moveOrHold 85 = .ok (.aload_n 0, 1) := by decide +kernel
theorem dX2_moveOrHold_86 : decode cX2_moveOrHold 86 = .ok (.getfield 31, 3) := by decide +kernel
theorem dX2_moveOrHold_89 : decode cX2_moveOrHold 89 = .ok (.iload_n 1, 1) := by decide +kernel
theorem dX2_moveOrHold_90 : decode cX2_moveOrHold 90 = .ok (.iconst 0, 1) := by decide +kernel
theorem dX2_moveOrHold_91 : decode cX2_moveOrHold 91 = .ok (.iastore, 1) := by decide +kernel
theorem dX2_moveOrHold_92 : decode cX2_moveOrHold 92 = .ok (.aload_n 0, 1) := by decide +kernel
theorem dX2_moveOrHold_93 : decode cX2_moveOrHold 93 = .ok (.getfield 34, 3) := by decide +kernel
theorem dX2_moveOrHold_96 : decode cX2_moveOrHold 96 = .ok (.aload_n 0, 1) := by decide +kernel
theorem dX2_moveOrHold_97 : decode cX2_moveOrHold 97 = .ok (.getfield 28, 3) := by decide +kernel
theorem dX2_moveOrHold_100 : decode cX2_moveOrHold 100 = .ok (.iload_n 1, 1) := by decide +kernel
theorem dX2_moveOrHold_101 : decode cX2_moveOrHold 101 = .ok (.iaload, 1) := by decide +kernel
theorem dX2_moveOrHold_102 : decode cX2_moveOrHold 102 = .ok (.dup2, 1) := by decide +kernel
theorem dX2_moveOrHold_103 : decode cX2_moveOrHold 103 = .ok (.iaload, 1) := by decide +kernel
theorem dX2_moveOrHold_104 : decode cX2_moveOrHold 104 = .ok (.iconst 1, 1) := by decide +kernel
theorem dX2_moveOrHold_105 : decode cX2_moveOrHold 105 = .ok (.isub, 1) := by decide +kernel
theorem dX2_moveOrHold_106 : decode cX2_moveOrHold 106 = .ok (.iastore, 1) := by decide +kernel
theorem dX2_moveOrHold_107 : decode cX2_moveOrHold 107 = .ok (.aload_n 0, 1) := by decide +kernel
theorem dX2_moveOrHold_108 : decode cX2_moveOrHold 108 = .ok (.getfield 34, 3) := by decide +kernel
theorem dX2_moveOrHold_111 : decode cX2_moveOrHold 111 = .ok (.iload_n 3, 1) := by decide +kernel
theorem dX2_moveOrHold_112 : decode cX2_moveOrHold 112 = .ok (.dup2, 1) := by decide +kernel
theorem dX2_moveOrHold_113 : decode cX2_moveOrHold 113 = .ok (.iaload, 1) := by decide +kernel
theorem dX2_moveOrHold_114 : decode cX2_moveOrHold 114 = .ok (.iconst 1, 1) := by decide +kernel
theorem dX2_moveOrHold_115 : decode cX2_moveOrHold 115 = .ok (.iadd, 1) := by decide +kernel
theorem dX2_moveOrHold_116 : decode cX2_moveOrHold 116 = .ok (.iastore, 1) := by decide +kernel
theorem dX2_moveOrHold_117 : decode cX2_moveOrHold 117 = .ok (.aload_n 0, 1) := by decide +kernel
theorem dX2_moveOrHold_118 : decode cX2_moveOrHold 118 = .ok (.getfield 28, 3) := by decide +kernel
theorem dX2_moveOrHold_121 : decode cX2_moveOrHold 121 = .ok (.iload_n 1, 1) := by decide +kernel
theorem dX2_moveOrHold_122 : decode cX2_moveOrHold 122 = .ok (.iload_n 3, 1) := by decide +kernel
theorem dX2_moveOrHold_123 : decode cX2_moveOrHold 123 = .ok (.iastore, 1) := by decide +kernel
theorem dX2_moveOrHold_124 : decode cX2_moveOrHold 124 = .ok (.iload_n 3, 1) := by decide +kernel
theorem dX2_moveOrHold_125 : decode cX2_moveOrHold 125 = .ok (.aload_n 0, 1) := by decide +kernel
theorem dX2_moveOrHold_126 : decode cX2_moveOrHold 126 = .ok (.getfield 9, 3) := by decide +kernel
theorem dX2_moveOrHold_129 : decode cX2_moveOrHold 129 = .ok (.iload_n 1, 1) := by decide +kernel
theorem dX2_moveOrHold_130 : decode cX2_moveOrHold 130 = .ok (.iaload, 1) := by decide +kernel
theorem dX2_moveOrHold_131 : decode cX2_moveOrHold 131 = .ok (.if_icmp .ne 20, 3) := by decide +kernel
theorem dX2_moveOrHold_134 : decode cX2_moveOrHold 134 = .ok (.aload_n 0, 1) := by decide +kernel
theorem dX2_moveOrHold_135 : decode cX2_moveOrHold 135 = .ok (.getfield 18, 3) := by decide +kernel
theorem dX2_moveOrHold_138 : decode cX2_moveOrHold 138 = .ok (.iload_n 1, 1) := by decide +kernel
theorem dX2_moveOrHold_139 : decode cX2_moveOrHold 139 = .ok (.iload_n 2, 1) := by decide +kernel
theorem dX2_moveOrHold_140 : decode cX2_moveOrHold 140 = .ok (.iastore, 1) := by decide +kernel
theorem dX2_moveOrHold_141 : decode cX2_moveOrHold 141 = .ok (.aload_n 0, 1) := by decide +kernel
theorem dX2_moveOrHold_142 : decode cX2_moveOrHold 142 = .ok (.dup, 1) := by decide +kernel
theorem dX2_moveOrHold_143 : decode cX2_moveOrHold 143 = .ok (.getfield 43, 3) := by decide +kernel
theorem dX2_moveOrHold_146 : decode cX2_moveOrHold 146 = .ok (.iconst 1, 1) := by decide +kernel
theorem dX2_moveOrHold_147 : decode cX2_moveOrHold 147 = .ok (.isub, 1) := by decide +kernel
theorem dX2_moveOrHold_148 : decode cX2_moveOrHold 148 = .ok (.putfield 43, 3) := by decide +kernel
theorem dX2_moveOrHold_151 : decode cX2_moveOrHold 151 = .ok (.return_, 1) := by decide +kernel
theorem pd_X2_moveOrHold : (parseMethodDescriptor yX2_moveOrHold.desc).map (fun d => d.parameters.length) = some 2 := by decide +kernel
def w_X2_moveOrHold (zz : Nat → Nat) (a0 : Nat) (a1 : Int) (a2 : Int) (h : AH) (Q : AH → Prop) : Prop := okA h a0 2 ∧ ∃ b2 : Nat, hfR h a0 7 = some b2 ∧ okI h b2 a1 ∧ okA h a0 2 ∧ ∃ b8 : Nat, hfR h a0 0 = some b8 ∧ okI h b8 a1 ∧ okA h a0 2 ∧ w_X2_nextCell zz a0 (haI h b2 a1) (haI h b8 a1) h (fun (r13 : Int) (h13 : AH) => okA h13 a0 2 ∧ ∃ b18 : Nat, hfR h13 a0 9 = some b18 ∧ okI h13 b18 r13 ∧ jn (fun  (h_85 : AH) => okA h_85 a0 2 ∧ ∃ b86 : Nat, hfR h_85 a0 8 = some b86 ∧ okW h_85 b86 a1 ∧ ∀ h91 : AH, h91 = saI h_85 b86 (u1 (haI h_85 b86) a1 (0 : Int)) → okA h91 a0 2 ∧ ∃ b93 : Nat, hfR h91 a0 9 = some b93 ∧ okA h91 a0 2 ∧ ∃ b97 : Nat, hfR h91 a0 7 = some b97 ∧ okI h91 b97 a1 ∧ okI h91 b93 (haI h91 b97 a1) ∧ inR ((haI h91 b93 (haI h91 b97 a1)) - (1 : Int)) ∧ okW h91 b93 (haI h91 b97 a1) ∧ ∀ h106 : AH, h106 = saI h91 b93 (u1 (haI h91 b93) (haI h91 b97 a1) ((haI h91 b93 (haI h91 b97 a1)) - (1 : Int))) → okA h106 a0 2 ∧ ∃ b108 : Nat, hfR h106 a0 9 = some b108 ∧ okI h106 b108 r13 ∧ inR ((haI h106 b108 r13) + (1 : Int)) ∧ okW h106 b108 r13 ∧ ∀ h116 : AH, h116 = saI h106 b108 (u1 (haI h106 b108) r13 ((haI h106 b108 r13) + (1 : Int))) → okA h116 a0 2 ∧ ∃ b118 : Nat, hfR h116 a0 7 = some b118 ∧ okW h116 b118 a1 ∧ ∀ h123 : AH, h123 = saI h116 b118 (u1 (haI h116 b118) a1 r13) → okA h123 a0 2 ∧ ∃ b126 : Nat, hfR h123 a0 0 = some b126 ∧ okI h123 b126 a1 ∧ jn (fun  (h_151 : AH) => Q h_151) (fun k_151 : AH → Prop => ((¬ r13 = (haI h123 b126 a1)) → k_151  h123) ∧ ((r13 = (haI h123 b126 a1)) → okA h123 a0 2 ∧ ∃ b135 : Nat, hfR h123 a0 2 = some b135 ∧ okW h123 b135 a1 ∧ ∀ h140 : AH, h140 = saI h123 b135 (u1 (haI h123 b135) a1 a2) → okA h140 a0 2 ∧ inR ((hfI h140 a0 12) - (1 : Int)) ∧ okP h140 a0 2 ∧ ∀ h148 : AH, h148 = sfI h140 a0 12 ((hfI h140 a0 12) - (1 : Int)) → k_151  h148))) (fun k_85 : AH → Prop => (((haI h13 b18 r13) ≤ 0) → k_85  h13) ∧ ((¬ ((haI h13 b18 r13) ≤ 0)) → okA h13 a0 2 ∧ ∃ b27 : Nat, hfR h13 a0 8 = some b27 ∧ okI h13 b27 a1 ∧ okA h13 a0 2 ∧ ∃ b33 : Nat, hfR h13 a0 5 = some b33 ∧ okA h13 b33 4 ∧ ∃ b36 : Nat, hfR h13 b33 0 = some b36 ∧ okI h13 b36 (5 : Int) ∧ (((haI h13 b36 (5 : Int)) ≤ (haI h13 b27 a1)) → k_85  h13) ∧ ((¬ ((haI h13 b36 (5 : Int)) ≤ (haI h13 b27 a1))) → okA h13 a0 2 ∧ ∃ b45 : Nat, hfR h13 a0 8 = some b45 ∧ okI h13 b45 a1 ∧ inR ((haI h13 b45 a1) + (1 : Int)) ∧ okW h13 b45 a1 ∧ ∀ h53 : AH, h53 = saI h13 b45 (u1 (haI h13 b45) a1 ((haI h13 b45 a1) + (1 : Int))) → okA h53 a0 2 ∧ ∃ b55 : Nat, hfR h53 a0 1 = some b55 ∧ okI h53 b55 a1 ∧ inR ((haI h53 b55 a1) + (1 : Int)) ∧ okW h53 b55 a1 ∧ ∀ h63 : AH, h63 = saI h53 b55 (u1 (haI h53 b55) a1 ((haI h53 b55 a1) + (1 : Int))) → okA h63 a0 2 ∧ ∃ b65 : Nat, hfR h63 a0 10 = some b65 ∧ okI h63 b65 a2 ∧ inR ((haI h63 b65 a2) + (1 : Int)) ∧ okW h63 b65 a2 ∧ ∀ h73 : AH, h73 = saI h63 b65 (u1 (haI h63 b65) a2 ((haI h63 b65 a2) + (1 : Int))) → okA h73 a0 2 ∧ inR ((hfI h73 a0 4) + (1 : Int)) ∧ okP h73 a0 2 ∧ ∀ h81 : AH, h81 = sfI h73 a0 4 ((hfI h73 a0 4) + (1 : Int)) → Q h81))))
set_option maxRecDepth 100000 in
set_option maxHeartbeats 4000000 in
theorem met_X2_moveOrHold (G : GG) (l : Launch) : ∀ (As : List Value) (a0 : Nat) (a1 : Int) (a2 : Int) (h : AH) (Q : AH → Prop), As.map ab = List.map some ([vR a0, vI a1, vI a2] : List AV) → w_X2_moveOrHold G.2.2 a0 a1 a2 h Q → Met l yX2_moveOrHold (.code yX2_moveOrHold cX2_moveOrHold 4 none :: xTb) ({ frames := 2, cells := 0, slots := 0, locals := 46 } : Room) (PcA G As h) (QG G (oV Q)) 0 0 (frA G) := by
  intro As a0 a1 a2 h Q hA hw
  refine met_of hA (by decide) (Nat.le_of_ble_eq_true rfl) (fun p e s m args below meth c C hml hr hnm => ?_)
  unfold w_X2_moveOrHold at hw
  refine aw_aload_n (pc := 0) C dX2_moveOrHold_0 rfl rfl ?_
  refine aw_aload_n (pc := 1) C dX2_moveOrHold_1 rfl rfl ?_
  obtain ⟨hp9, b2, hb9, hw⟩ := hw
  refine aw_getR (pc := 2) C (ci := 2) (k := 7) ci2 (by decide) tw140 dX2_moveOrHold_2 rfl hp9 hb9 ?_
  refine aw_iload_n (pc := 5) C dX2_moveOrHold_5 rfl rfl ?_
  obtain ⟨⟨k9, hp9⟩, hw⟩ := hw
  refine aw_iald (pc := 6) C dX2_moveOrHold_6 hp9 ?_
  refine aw_aload_n (pc := 7) C dX2_moveOrHold_7 rfl rfl ?_
  obtain ⟨hp9, b8, hb9, hw⟩ := hw
  refine aw_getR (pc := 8) C (ci := 2) (k := 0) ci2 (by decide) tw128 dX2_moveOrHold_8 rfl hp9 hb9 ?_
  refine aw_iload_n (pc := 11) C dX2_moveOrHold_11 rfl rfl ?_
  obtain ⟨⟨k9, hp9⟩, hw⟩ := hw
  refine aw_iald (pc := 12) C dX2_moveOrHold_12 hp9 ?_
  obtain ⟨hp9, hw⟩ := hw
  refine aw_callV (pc := 13) (as := [vI (haI h b2 a1), vI (haI h b8 a1)]) C ci2 (fun As hA => met_X2_nextCell G l As a0 (haI h b2 a1) (haI h b8 a1) _ _ hA hw) tw372 tw374 (tbp 13 (n := 13) (by decide +kernel)) tw8 tw375 ⟨rfl, rfl⟩ ⟨rfl, by decide, by decide, pd_X2_nextCell⟩ ⟨Nat.le_of_ble_eq_true rfl, Nat.le_of_ble_eq_true rfl⟩ ⟨Nat.zero_le _, Nat.zero_le _⟩ (Nat.le_of_ble_eq_true rfl) dX2_moveOrHold_13 rfl hp9 (fun v9 h13 hq9 => ?_)
  obtain ⟨r13, rfl, hw⟩ := hq9
  refine aw_istore_n (pc := 16) C dX2_moveOrHold_16 rfl (by rw [hml]; decide) ?_
  refine aw_aload_n (pc := 17) C dX2_moveOrHold_17 rfl rfl ?_
  obtain ⟨hp9, b18, hb9, hw⟩ := hw
  refine aw_getR (pc := 18) C (ci := 2) (k := 9) ci2 (by decide) tw142 dX2_moveOrHold_18 rfl hp9 hb9 ?_
  refine aw_iload_n (pc := 21) C dX2_moveOrHold_21 rfl rfl ?_
  obtain ⟨⟨k9, hp9⟩, hw⟩ := hw
  refine aw_iald (pc := 22) C dX2_moveOrHold_22 hp9 ?_
  obtain ⟨k_85, hk_85, hw⟩ := jn_out hw
  have J_85 : ∀  (h_85 : AH), k_85  h_85 → AW G p l e ({ frames := 2, cells := 0, slots := 0, locals := 46 } : Room) s m args below meth c 0 0 (MQ below (QG G (oV Q)) args s 0 0 (frA G)) 85 (eOf [(0, vR a0), (1, vI a1), (2, vI a2), (3, vI r13)]) [] h_85 := by
    intro  h_85 hw
    rw [hk_85] at hw
    refine aw_aload_n (pc := 85) C dX2_moveOrHold_85 rfl rfl ?_
    obtain ⟨hp9, b86, hb9, hw⟩ := hw
    refine aw_getR (pc := 86) C (ci := 2) (k := 8) ci2 (by decide) tw141 dX2_moveOrHold_86 rfl hp9 hb9 ?_
    refine aw_iload_n (pc := 89) C dX2_moveOrHold_89 rfl rfl ?_
    refine aw_iconst (pc := 90) C dX2_moveOrHold_90 (i := (0 : Int)) (by decide) ?_
    obtain ⟨⟨k9, hp9⟩, hw⟩ := hw
    refine aw_iast (pc := 91) C dX2_moveOrHold_91 hp9 (aw_nmH (fun h91 e9 => ?_))
    have hw := hw h91 e9
    refine aw_aload_n (pc := 92) C dX2_moveOrHold_92 rfl rfl ?_
    obtain ⟨hp9, b93, hb9, hw⟩ := hw
    refine aw_getR (pc := 93) C (ci := 2) (k := 9) ci2 (by decide) tw142 dX2_moveOrHold_93 rfl hp9 hb9 ?_
    refine aw_aload_n (pc := 96) C dX2_moveOrHold_96 rfl rfl ?_
    obtain ⟨hp9, b97, hb9, hw⟩ := hw
    refine aw_getR (pc := 97) C (ci := 2) (k := 7) ci2 (by decide) tw140 dX2_moveOrHold_97 rfl hp9 hb9 ?_
    refine aw_iload_n (pc := 100) C dX2_moveOrHold_100 rfl rfl ?_
    obtain ⟨⟨k9, hp9⟩, hw⟩ := hw
    refine aw_iald (pc := 101) C dX2_moveOrHold_101 hp9 ?_
    refine aw_dup2 (pc := 102) C dX2_moveOrHold_102 rfl rfl ?_
    obtain ⟨⟨k9, hp9⟩, hw⟩ := hw
    refine aw_iald (pc := 103) C dX2_moveOrHold_103 hp9 ?_
    refine aw_iconst (pc := 104) C dX2_moveOrHold_104 (i := (1 : Int)) (by decide) ?_
    obtain ⟨hp9, hw⟩ := hw
    refine aw_isub (pc := 105) C dX2_moveOrHold_105 hp9 ?_
    obtain ⟨⟨k9, hp9⟩, hw⟩ := hw
    refine aw_iast (pc := 106) C dX2_moveOrHold_106 hp9 (aw_nmH (fun h106 e9 => ?_))
    have hw := hw h106 e9
    refine aw_aload_n (pc := 107) C dX2_moveOrHold_107 rfl rfl ?_
    obtain ⟨hp9, b108, hb9, hw⟩ := hw
    refine aw_getR (pc := 108) C (ci := 2) (k := 9) ci2 (by decide) tw142 dX2_moveOrHold_108 rfl hp9 hb9 ?_
    refine aw_iload_n (pc := 111) C dX2_moveOrHold_111 rfl rfl ?_
    refine aw_dup2 (pc := 112) C dX2_moveOrHold_112 rfl rfl ?_
    obtain ⟨⟨k9, hp9⟩, hw⟩ := hw
    refine aw_iald (pc := 113) C dX2_moveOrHold_113 hp9 ?_
    refine aw_iconst (pc := 114) C dX2_moveOrHold_114 (i := (1 : Int)) (by decide) ?_
    obtain ⟨hp9, hw⟩ := hw
    refine aw_iadd (pc := 115) C dX2_moveOrHold_115 hp9 ?_
    obtain ⟨⟨k9, hp9⟩, hw⟩ := hw
    refine aw_iast (pc := 116) C dX2_moveOrHold_116 hp9 (aw_nmH (fun h116 e9 => ?_))
    have hw := hw h116 e9
    refine aw_aload_n (pc := 117) C dX2_moveOrHold_117 rfl rfl ?_
    obtain ⟨hp9, b118, hb9, hw⟩ := hw
    refine aw_getR (pc := 118) C (ci := 2) (k := 7) ci2 (by decide) tw140 dX2_moveOrHold_118 rfl hp9 hb9 ?_
    refine aw_iload_n (pc := 121) C dX2_moveOrHold_121 rfl rfl ?_
    refine aw_iload_n (pc := 122) C dX2_moveOrHold_122 rfl rfl ?_
    obtain ⟨⟨k9, hp9⟩, hw⟩ := hw
    refine aw_iast (pc := 123) C dX2_moveOrHold_123 hp9 (aw_nmH (fun h123 e9 => ?_))
    have hw := hw h123 e9
    refine aw_iload_n (pc := 124) C dX2_moveOrHold_124 rfl rfl ?_
    refine aw_aload_n (pc := 125) C dX2_moveOrHold_125 rfl rfl ?_
    obtain ⟨hp9, b126, hb9, hw⟩ := hw
    refine aw_getR (pc := 126) C (ci := 2) (k := 0) ci2 (by decide) tw128 dX2_moveOrHold_126 rfl hp9 hb9 ?_
    refine aw_iload_n (pc := 129) C dX2_moveOrHold_129 rfl rfl ?_
    obtain ⟨⟨k9, hp9⟩, hw⟩ := hw
    refine aw_iald (pc := 130) C dX2_moveOrHold_130 hp9 ?_
    obtain ⟨k_151, hk_151, hw⟩ := jn_out hw
    have J_151 : ∀  (h_151 : AH), k_151  h_151 → AW G p l e ({ frames := 2, cells := 0, slots := 0, locals := 46 } : Room) s m args below meth c 0 0 (MQ below (QG G (oV Q)) args s 0 0 (frA G)) 151 (eOf []) [] h_151 := by
      intro  h_151 hw
      rw [hk_151] at hw
      exact aw_vret (pc := 151) C hr dX2_moveOrHold_151 ⟨Nat.le_of_ble_eq_true rfl, Nat.le_of_ble_eq_true rfl⟩ ⟨rfl, hw⟩
    refine aw_icmp_ne (pc := 131) (tgt := 151) C dX2_moveOrHold_131 (by decide) (fun hc9 => ?_) (fun hc9 => ?_)
    · have hw := hw.1 hc9
      refine aw_sub [] trivial ?_
      exact J_151  _ hw
    · have hw := hw.2 hc9
      refine aw_aload_n (pc := 134) C dX2_moveOrHold_134 rfl rfl ?_
      obtain ⟨hp9, b135, hb9, hw⟩ := hw
      refine aw_getR (pc := 135) C (ci := 2) (k := 2) ci2 (by decide) tw131 dX2_moveOrHold_135 rfl hp9 hb9 ?_
      refine aw_iload_n (pc := 138) C dX2_moveOrHold_138 rfl rfl ?_
      refine aw_iload_n (pc := 139) C dX2_moveOrHold_139 rfl rfl ?_
      obtain ⟨⟨k9, hp9⟩, hw⟩ := hw
      refine aw_iast (pc := 140) C dX2_moveOrHold_140 hp9 (aw_nmH (fun h140 e9 => ?_))
      have hw := hw h140 e9
      refine aw_aload_n (pc := 141) C dX2_moveOrHold_141 rfl rfl ?_
      refine aw_dup (pc := 142) C dX2_moveOrHold_142 rfl ?_
      obtain ⟨hp9, hw⟩ := hw
      refine aw_getI (pc := 143) C (ci := 2) (k := 12) ci2 (by decide) tw145 dX2_moveOrHold_143 rfl hp9 ?_
      refine aw_iconst (pc := 146) C dX2_moveOrHold_146 (i := (1 : Int)) (by decide) ?_
      obtain ⟨hp9, hw⟩ := hw
      refine aw_isub (pc := 147) C dX2_moveOrHold_147 hp9 ?_
      obtain ⟨hp9, hw⟩ := hw
      refine aw_putI (pc := 148) C (ci := 2) (k := 12) ci2 (by decide) tw145 (Or.inl rfl) dX2_moveOrHold_148 rfl hp9 (aw_nmH (fun h148 e9 => ?_))
      have hw := hw h148 e9
      refine aw_sub [] trivial ?_
      exact J_151  _ hw
  refine aw_if_le (pc := 23) (tgt := 85) C dX2_moveOrHold_23 (by decide) (fun hc9 => ?_) (fun hc9 => ?_)
  · have hw := hw.1 hc9
    refine aw_sub [(0, vR a0), (1, vI a1), (2, vI a2), (3, vI r13)] ⟨rfl, rfl, rfl, rfl, trivial⟩ ?_
    exact J_85  _ hw
  · have hw := hw.2 hc9
    refine aw_aload_n (pc := 26) C dX2_moveOrHold_26 rfl rfl ?_
    obtain ⟨hp9, b27, hb9, hw⟩ := hw
    refine aw_getR (pc := 27) C (ci := 2) (k := 8) ci2 (by decide) tw141 dX2_moveOrHold_27 rfl hp9 hb9 ?_
    refine aw_iload_n (pc := 30) C dX2_moveOrHold_30 rfl rfl ?_
    obtain ⟨⟨k9, hp9⟩, hw⟩ := hw
    refine aw_iald (pc := 31) C dX2_moveOrHold_31 hp9 ?_
    refine aw_aload_n (pc := 32) C dX2_moveOrHold_32 rfl rfl ?_
    obtain ⟨hp9, b33, hb9, hw⟩ := hw
    refine aw_getR (pc := 33) C (ci := 2) (k := 5) ci2 (by decide) tw138 dX2_moveOrHold_33 rfl hp9 hb9 ?_
    obtain ⟨hp9, b36, hb9, hw⟩ := hw
    refine aw_getR (pc := 36) C (ci := 4) (k := 0) ci4 (by decide) tw70 dX2_moveOrHold_36 rfl hp9 hb9 ?_
    refine aw_iconst (pc := 39) C dX2_moveOrHold_39 (i := (5 : Int)) (by decide) ?_
    obtain ⟨⟨k9, hp9⟩, hw⟩ := hw
    refine aw_iald (pc := 40) C dX2_moveOrHold_40 hp9 ?_
    refine aw_icmp_ge (pc := 41) (tgt := 85) C dX2_moveOrHold_41 (by decide) (fun hc9 => ?_) (fun hc9 => ?_)
    · have hw := hw.1 hc9
      refine aw_sub [(0, vR a0), (1, vI a1), (2, vI a2), (3, vI r13)] ⟨rfl, rfl, rfl, rfl, trivial⟩ ?_
      exact J_85  _ hw
    · have hw := hw.2 hc9
      refine aw_aload_n (pc := 44) C dX2_moveOrHold_44 rfl rfl ?_
      obtain ⟨hp9, b45, hb9, hw⟩ := hw
      refine aw_getR (pc := 45) C (ci := 2) (k := 8) ci2 (by decide) tw141 dX2_moveOrHold_45 rfl hp9 hb9 ?_
      refine aw_iload_n (pc := 48) C dX2_moveOrHold_48 rfl rfl ?_
      refine aw_dup2 (pc := 49) C dX2_moveOrHold_49 rfl rfl ?_
      obtain ⟨⟨k9, hp9⟩, hw⟩ := hw
      refine aw_iald (pc := 50) C dX2_moveOrHold_50 hp9 ?_
      refine aw_iconst (pc := 51) C dX2_moveOrHold_51 (i := (1 : Int)) (by decide) ?_
      obtain ⟨hp9, hw⟩ := hw
      refine aw_iadd (pc := 52) C dX2_moveOrHold_52 hp9 ?_
      obtain ⟨⟨k9, hp9⟩, hw⟩ := hw
      refine aw_iast (pc := 53) C dX2_moveOrHold_53 hp9 (aw_nmH (fun h53 e9 => ?_))
      have hw := hw h53 e9
      refine aw_aload_n (pc := 54) C dX2_moveOrHold_54 rfl rfl ?_
      obtain ⟨hp9, b55, hb9, hw⟩ := hw
      refine aw_getR (pc := 55) C (ci := 2) (k := 1) ci2 (by decide) tw129 dX2_moveOrHold_55 rfl hp9 hb9 ?_
      refine aw_iload_n (pc := 58) C dX2_moveOrHold_58 rfl rfl ?_
      refine aw_dup2 (pc := 59) C dX2_moveOrHold_59 rfl rfl ?_
      obtain ⟨⟨k9, hp9⟩, hw⟩ := hw
      refine aw_iald (pc := 60) C dX2_moveOrHold_60 hp9 ?_
      refine aw_iconst (pc := 61) C dX2_moveOrHold_61 (i := (1 : Int)) (by decide) ?_
      obtain ⟨hp9, hw⟩ := hw
      refine aw_iadd (pc := 62) C dX2_moveOrHold_62 hp9 ?_
      obtain ⟨⟨k9, hp9⟩, hw⟩ := hw
      refine aw_iast (pc := 63) C dX2_moveOrHold_63 hp9 (aw_nmH (fun h63 e9 => ?_))
      have hw := hw h63 e9
      refine aw_aload_n (pc := 64) C dX2_moveOrHold_64 rfl rfl ?_
      obtain ⟨hp9, b65, hb9, hw⟩ := hw
      refine aw_getR (pc := 65) C (ci := 2) (k := 10) ci2 (by decide) tw143 dX2_moveOrHold_65 rfl hp9 hb9 ?_
      refine aw_iload_n (pc := 68) C dX2_moveOrHold_68 rfl rfl ?_
      refine aw_dup2 (pc := 69) C dX2_moveOrHold_69 rfl rfl ?_
      obtain ⟨⟨k9, hp9⟩, hw⟩ := hw
      refine aw_iald (pc := 70) C dX2_moveOrHold_70 hp9 ?_
      refine aw_iconst (pc := 71) C dX2_moveOrHold_71 (i := (1 : Int)) (by decide) ?_
      obtain ⟨hp9, hw⟩ := hw
      refine aw_iadd (pc := 72) C dX2_moveOrHold_72 hp9 ?_
      obtain ⟨⟨k9, hp9⟩, hw⟩ := hw
      refine aw_iast (pc := 73) C dX2_moveOrHold_73 hp9 (aw_nmH (fun h73 e9 => ?_))
      have hw := hw h73 e9
      refine aw_aload_n (pc := 74) C dX2_moveOrHold_74 rfl rfl ?_
      refine aw_dup (pc := 75) C dX2_moveOrHold_75 rfl ?_
      obtain ⟨hp9, hw⟩ := hw
      refine aw_getI (pc := 76) C (ci := 2) (k := 4) ci2 (by decide) tw135 dX2_moveOrHold_76 rfl hp9 ?_
      refine aw_iconst (pc := 79) C dX2_moveOrHold_79 (i := (1 : Int)) (by decide) ?_
      obtain ⟨hp9, hw⟩ := hw
      refine aw_iadd (pc := 80) C dX2_moveOrHold_80 hp9 ?_
      obtain ⟨hp9, hw⟩ := hw
      refine aw_putI (pc := 81) C (ci := 2) (k := 4) ci2 (by decide) tw135 (Or.inl rfl) dX2_moveOrHold_81 rfl hp9 (aw_nmH (fun h81 e9 => ?_))
      have hw := hw h81 e9
      exact aw_vret (pc := 84) C hr dX2_moveOrHold_84 ⟨Nat.le_of_ble_eq_true rfl, Nat.le_of_ble_eq_true rfl⟩ ⟨rfl, hw⟩
theorem dX2_work_0 : decode cX2_work 0 = .ok (.aload_n 0, 1) := by decide +kernel
theorem dX2_work_1 : decode cX2_work 1 = .ok (.invokevirtual 54, 3) := by decide +kernel
theorem dX2_work_4 : decode cX2_work 4 = .ok (.aload_n 0, 1) := by decide +kernel
theorem dX2_work_5 : decode cX2_work 5 = .ok (.iconst 0, 1) := by decide +kernel
theorem dX2_work_6 : decode cX2_work 6 = .ok (.invokevirtual 57, 3) := by decide +kernel
theorem dX2_work_9 : decode cX2_work 9 = .ok (.aload_n 0, 1) := by decide +kernel
theorem dX2_work_10 : decode cX2_work 10 = .ok (.getfield 43, 3) := by decide +kernel
theorem dX2_work_13 : decode cX2_work 13 = .ok (.ifCond .gt 15, 3) := by decide +kernel
theorem dX2_work_16 : decode cX2_work 16 = .ok (.aload_n 0, 1) := by decide +kernel
theorem dX2_work_17 : decode cX2_work 17 = .ok (.getfield 50, 3) := by decide +kernel
theorem dX2_work_20 : decode cX2_work 20 = .ok (.getfield 61, 3) := by decide +kernel
theorem dX2_work_23 : decode cX2_work 23 = .ok (.iconst 3, 1) := by decide +kernel
theorem dX2_work_24 : decode cX2_work 24 = .ok (.iaload, 1) := by decide +kernel
theorem dX2_work_25 : decode cX2_work 25 = .ok (.ifCond .le 7, 3) := by decide +kernel
theorem dX2_work_28 : decode cX2_work 28 = .ok (.iconst 1, 1) := by decide +kernel
theorem dX2_work_29 : decode cX2_work 29 = .ok (.goto 4, 3) := by decide +kernel
theorem dX2_work_32 : decode cX2_work 32 = .ok (.iconst 0, 1) := by decide +kernel
theorem dX2_work_33 : decode cX2_work 33 = .ok (.istore_n 1, 1) := by decide +kernel
theorem dX2_work_34 : decode cX2_work 34 = .ok (.iconst 1, 1) := by decide +kernel
theorem dX2_work_35 : decode cX2_work 35 = .ok (.istore_n 2, 1) := by decide +kernel
theorem dX2_work_36 : decode cX2_work 36 = .ok (.iload_n 2, 1) := by decide +kernel
theorem dX2_work_37 : decode cX2_work 37 = .ok (.sipush 190, 3) := by decide +kernel
theorem dX2_work_40 : decode cX2_work 40 = .ok (.if_icmp .gt 73, 3) := by decide +kernel
theorem dX2_work_43 : decode cX2_work 43 = .ok (.iload_n 1, 1) := by decide +kernel
theorem dX2_work_44 : decode cX2_work 44 = .ok (.ifCond .eq 69, 3) := by decide +kernel
theorem dX2_work_47 : decode cX2_work 47 = .ok (.aload_n 0, 1) := by decide +kernel
theorem dX2_work_48 : decode cX2_work 48 = .ok (.iload_n 2, 1) := by decide +kernel
theorem dX2_work_49 : decode cX2_work 49 = .ok (.putfield 21, 3) := by decide +kernel
theorem dX2_work_52 : decode cX2_work 52 = .ok (.iconst 0, 1) := by decide +kernel
theorem dX2_work_53 : decode cX2_work 53 = .ok (.istore_n 3, 1) := by decide +kernel
theorem dX2_work_54 : decode cX2_work 54 = .ok (.iload_n 3, 1) := by decide +kernel
theorem dX2_work_55 : decode cX2_work 55 = .ok (.aload_n 0, 1) := by decide +kernel
theorem dX2_work_56 : decode cX2_work 56 = .ok (.getfield 46, 3) := by decide +kernel
theorem dX2_work_59 : decode cX2_work 59 = .ok (.iconst 0, 1) := by decide +kernel
theorem dX2_work_60 : decode cX2_work 60 = .ok (.invokevirtual 66, 3) := by decide +kernel
theorem dX2_work_63 : decode cX2_work 63 = .ok (.getfield 72, 3) := by decide +kernel
theorem dX2_work_66 : decode cX2_work 66 = .ok (.if_icmp .ge 23, 3) := by decide +kernel
theorem dX2_work_69 : decode cX2_work 69 = .ok (.aload_n 0, 1) := by decide +kernel
theorem dX2_work_70 : decode cX2_work 70 = .ok (.iload_n 3, 1) := by decide +kernel
theorem dX2_work_71 : decode cX2_work 71 = .ok (.invokevirtual 77, 3) := by decide +kernel
theorem dX2_work_74 : decode cX2_work 74 = .ok (.ifCond .eq 9, 3) := by decide +kernel
theorem dX2_work_77 : decode cX2_work 77 = .ok (.aload_n 0, 1) := by decide +kernel
theorem dX2_work_78 : decode cX2_work 78 = .ok (.iload_n 3, 1) := by decide +kernel
theorem dX2_work_79 : decode cX2_work 79 = .ok (.iload_n 2, 1) := by decide +kernel
theorem dX2_work_80 : decode cX2_work 80 = .ok (.invokevirtual 81, 3) := by decide +kernel
theorem dX2_work_83 : decode cX2_work 83 = .ok (.iinc 3 1, 3) := by decide +kernel
theorem dX2_work_86 : decode cX2_work 86 = .ok (.goto (-32), 3) := by decide +kernel
theorem dX2_work_89 : decode cX2_work 89 = .ok (.aload_n 0, 1) := by decide +kernel
theorem dX2_work_90 : decode cX2_work 90 = .ok (.iload_n 2, 1) := by decide +kernel
theorem dX2_work_91 : decode cX2_work 91 = .ok (.invokevirtual 57, 3) := by decide +kernel
theorem dX2_work_94 : decode cX2_work 94 = .ok (.aload_n 0, 1) := by decide +kernel
theorem dX2_work_95 : decode cX2_work 95 = .ok (.getfield 43, 3) := by decide +kernel
theorem dX2_work_98 : decode cX2_work 98 = .ok (.ifCond .le 7, 3) := by decide +kernel
theorem dX2_work_101 : decode cX2_work 101 = .ok (.iconst 1, 1) := by decide +kernel
theorem dX2_work_102 : decode cX2_work 102 = .ok (.goto 4, 3) := by decide +kernel
theorem dX2_work_105 : decode cX2_work 105 = .ok (.iconst 0, 1) := by decide +kernel
theorem dX2_work_106 : decode cX2_work 106 = .ok (.istore_n 1, 1) := by decide +kernel
theorem dX2_work_107 : decode cX2_work 107 = .ok (.iinc 2 1, 3) := by decide +kernel
theorem dX2_work_110 : decode cX2_work 110 = .ok (.goto (-74), 3) := by decide +kernel
theorem dX2_work_113 : decode cX2_work 113 = .ok (.return_, 1) := by decide +kernel
theorem pd_X2_work : (parseMethodDescriptor yX2_work.desc).map (fun d => d.parameters.length) = some 0 := by decide +kernel
def w_X2_work (zz : Nat → Nat) (a0 : Nat) (h : AH) (Q : AH → Prop) : Prop := okA h a0 2 ∧ w_X2_start zz a0 h (fun  (h1 : AH) => okA h1 a0 2 ∧ w_X2_record zz a0 (0 : Int) h1 (fun  (h6 : AH) => okA h6 a0 2 ∧ jn (fun (t0_33 : Int) (h_33 : AH) => ∃ I_36 : Nat → Int → Int → AH → Prop, (∃ n, I_36 n t0_33 (1 : Int) h_33) ∧ ∀ (n_36 : Nat) (x1_36 : Int) (x2_36 : Int) (h_36 : AH), I_36 n_36 x1_36 x2_36 h_36 → (jn (fun  (h_113 : AH) => Q h_113) (fun k_113 : AH → Prop => (((190 : Int) < x2_36) → k_113  h_36) ∧ ((¬ ((190 : Int) < x2_36)) → ((x1_36 = 0) → k_113  h_36) ∧ ((¬ (x1_36 = 0)) → okP h_36 a0 2 ∧ ∀ h49 : AH, h49 = sfI h_36 a0 3 x2_36 → ∃ I_54 : Nat → Int → AH → Prop, (∃ n, I_54 n (0 : Int) h49) ∧ ∀ (n_54 : Nat) (x3_54 : Int) (h_54 : AH), I_54 n_54 x3_54 h_54 → (okA h_54 a0 2 ∧ ∃ b56 : Nat, hfR h_54 a0 5 = some b56 ∧ okA h_54 b56 4 ∧ w_X4_text zz b56 (0 : Int) h_54 (fun (r60 : Nat) (h60 : AH) => okA h60 r60 5 ∧ (((hfI h60 r60 2) ≤ x3_54) → okA h60 a0 2 ∧ w_X2_record zz a0 x2_36 h60 (fun  (h91 : AH) => okA h91 a0 2 ∧ jn (fun (t0_106 : Int) (h_106 : AH) => inR (x2_36 + 1) ∧ ∀ x2_107 : Int, x2_107 = (x2_36 + 1) → ∃ m, m < n_36 ∧ I_36 m t0_106 x2_107 h_106) (fun k_106 : Int → AH → Prop => (((hfI h91 a0 12) ≤ 0) → k_106 (0 : Int) h91) ∧ ((¬ ((hfI h91 a0 12) ≤ 0)) → k_106 (1 : Int) h91)))) ∧ ((¬ ((hfI h60 r60 2) ≤ x3_54)) → okA h60 a0 2 ∧ w_X2_isAway zz a0 x3_54 h60 (fun (r71 : Int) (h71 : AH) => jn (fun  (h_83 : AH) => inR (x3_54 + 1) ∧ ∀ x3_83 : Int, x3_83 = (x3_54 + 1) → ∃ m, m < n_54 ∧ I_54 m x3_83 h_83) (fun k_83 : AH → Prop => ((r71 = 0) → k_83  h71) ∧ ((¬ (r71 = 0)) → okA h71 a0 2 ∧ w_X2_moveOrHold zz a0 x3_54 x2_36 h71 (fun  (h80 : AH) => k_83  h80)))))))))))) (fun k_33 : Int → AH → Prop => jn (fun  (h_28 : AH) => k_33 (1 : Int) h_28) (fun k_28 : AH → Prop => ((0 < (hfI h6 a0 12)) → k_28  h6) ∧ ((¬ (0 < (hfI h6 a0 12))) → okA h6 a0 2 ∧ ∃ b17 : Nat, hfR h6 a0 6 = some b17 ∧ okA h6 b17 3 ∧ ∃ b20 : Nat, hfR h6 b17 4 = some b20 ∧ okI h6 b20 (3 : Int) ∧ (((haI h6 b20 (3 : Int)) ≤ 0) → k_33 (0 : Int) h6) ∧ ((¬ ((haI h6 b20 (3 : Int)) ≤ 0)) → k_28  h6))))))
set_option maxRecDepth 100000 in
set_option maxHeartbeats 4000000 in
theorem met_X2_work (G : GG) (l : Launch) : ∀ (As : List Value) (a0 : Nat) (h : AH) (Q : AH → Prop), As.map ab = List.map some ([vR a0] : List AV) → w_X2_work G.2.2 a0 h Q → Met l yX2_work (.code yX2_work cX2_work 4 none :: xTb) ({ frames := 3, cells := 0, slots := 0, locals := 69 } : Room) (PcA G As h) (QG G (oV Q)) 0 0 (frA G) := by
  intro As a0 h Q hA hw
  refine met_of hA (by decide) (Nat.le_of_ble_eq_true rfl) (fun p e s m args below meth c C hml hr hnm => ?_)
  unfold w_X2_work at hw
  refine aw_aload_n (pc := 0) C dX2_work_0 rfl rfl ?_
  obtain ⟨hp9, hw⟩ := hw
  refine aw_callV (pc := 1) (as := []) C ci2 (fun As hA => met_X2_start G l As a0 _ _ hA hw) tw353 tw355 (tbp 9 (n := 13) (by decide +kernel)) tw8 tw356 ⟨rfl, rfl⟩ ⟨rfl, by decide, by decide, pd_X2_start⟩ ⟨Nat.le_of_ble_eq_true rfl, Nat.le_of_ble_eq_true rfl⟩ ⟨Nat.zero_le _, Nat.zero_le _⟩ (Nat.le_of_ble_eq_true rfl) dX2_work_1 rfl hp9 (fun v9 h1 hq9 => ?_)
  obtain ⟨rfl, hw⟩ := hq9
  refine aw_aload_n (pc := 4) C dX2_work_4 rfl rfl ?_
  refine aw_iconst (pc := 5) C dX2_work_5 (i := (0 : Int)) (by decide) ?_
  obtain ⟨hp9, hw⟩ := hw
  refine aw_callV (pc := 6) (as := [vI (0 : Int)]) C ci2 (fun As hA => met_X2_record G l As a0 (0 : Int) _ _ hA hw) tw363 tw365 (tbp 11 (n := 13) (by decide +kernel)) tw8 tw366 ⟨rfl, rfl⟩ ⟨rfl, by decide, by decide, pd_X2_record⟩ ⟨Nat.le_of_ble_eq_true rfl, Nat.le_of_ble_eq_true rfl⟩ ⟨Nat.zero_le _, Nat.zero_le _⟩ (Nat.le_of_ble_eq_true rfl) dX2_work_6 rfl hp9 (fun v9 h6 hq9 => ?_)
  obtain ⟨rfl, hw⟩ := hq9
  refine aw_aload_n (pc := 9) C dX2_work_9 rfl rfl ?_
  obtain ⟨hp9, hw⟩ := hw
  refine aw_getI (pc := 10) C (ci := 2) (k := 12) ci2 (by decide) tw145 dX2_work_10 rfl hp9 ?_
  obtain ⟨k_33, hk_33, hw⟩ := jn_out hw
  have J_33 : ∀ (t0_33 : Int) (h_33 : AH), k_33 t0_33 h_33 → AW G p l e ({ frames := 3, cells := 0, slots := 0, locals := 69 } : Room) s m args below meth c 0 0 (MQ below (QG G (oV Q)) args s 0 0 (frA G)) 33 (eOf [(0, vR a0)]) [vI t0_33] h_33 := by
    intro t0_33 h_33 hw
    rw [hk_33] at hw
    refine aw_istore_n (pc := 33) C dX2_work_33 rfl (by rw [hml]; decide) ?_
    refine aw_iconst (pc := 34) C dX2_work_34 (i := (1 : Int)) (by decide) ?_
    refine aw_istore_n (pc := 35) C dX2_work_35 rfl (by rw [hml]; decide) ?_
    obtain ⟨I_36, ⟨n9, hi9⟩, hst9⟩ := hw
    have L_36 : ∀ (n_36 : Nat) (x1_36 : Int) (x2_36 : Int) (h_36 : AH), I_36 n_36 x1_36 x2_36 h_36 → AW G p l e ({ frames := 3, cells := 0, slots := 0, locals := 69 } : Room) s m args below meth c 0 0 (MQ below (QG G (oV Q)) args s 0 0 (frA G)) 36 (eOf [(0, vR a0), (1, vI x1_36), (2, vI x2_36)]) [] h_36 := by
      intro n_36
      induction n_36 using Nat.strongRecOn with
      | _ n_36 ih_36 =>
      intro x1_36 x2_36 h_36 hi9
      have hw := hst9 n_36 x1_36 x2_36 h_36 hi9
      refine aw_iload_n (pc := 36) C dX2_work_36 rfl rfl ?_
      refine aw_sipush (pc := 37) C dX2_work_37 (i := (190 : Int)) (by decide) ?_
      obtain ⟨k_113, hk_113, hw⟩ := jn_out hw
      have J_113 : ∀  (h_113 : AH), k_113  h_113 → AW G p l e ({ frames := 3, cells := 0, slots := 0, locals := 69 } : Room) s m args below meth c 0 0 (MQ below (QG G (oV Q)) args s 0 0 (frA G)) 113 (eOf []) [] h_113 := by
        intro  h_113 hw
        rw [hk_113] at hw
        exact aw_vret (pc := 113) C hr dX2_work_113 ⟨Nat.le_of_ble_eq_true rfl, Nat.le_of_ble_eq_true rfl⟩ ⟨rfl, hw⟩
      refine aw_icmp_gt (pc := 40) (tgt := 113) C dX2_work_40 (by decide) (fun hc9 => ?_) (fun hc9 => ?_)
      · have hw := hw.1 hc9
        refine aw_sub [] trivial ?_
        exact J_113  _ hw
      · have hw := hw.2 hc9
        refine aw_iload_n (pc := 43) C dX2_work_43 rfl rfl ?_
        refine aw_if_eq (pc := 44) (tgt := 113) C dX2_work_44 (by decide) (fun hc9 => ?_) (fun hc9 => ?_)
        · have hw := hw.1 hc9
          refine aw_sub [] trivial ?_
          exact J_113  _ hw
        · have hw := hw.2 hc9
          refine aw_aload_n (pc := 47) C dX2_work_47 rfl rfl ?_
          refine aw_iload_n (pc := 48) C dX2_work_48 rfl rfl ?_
          obtain ⟨hp9, hw⟩ := hw
          refine aw_putI (pc := 49) C (ci := 2) (k := 3) ci2 (by decide) tw133 (Or.inl rfl) dX2_work_49 rfl hp9 (aw_nmH (fun h49 e9 => ?_))
          have hw := hw h49 e9
          refine aw_iconst (pc := 52) C dX2_work_52 (i := (0 : Int)) (by decide) ?_
          refine aw_istore_n (pc := 53) C dX2_work_53 rfl (by rw [hml]; decide) ?_
          obtain ⟨I_54, ⟨n9, hi9⟩, hst9⟩ := hw
          have L_54 : ∀ (n_54 : Nat) (x3_54 : Int) (h_54 : AH), I_54 n_54 x3_54 h_54 → AW G p l e ({ frames := 3, cells := 0, slots := 0, locals := 69 } : Room) s m args below meth c 0 0 (MQ below (QG G (oV Q)) args s 0 0 (frA G)) 54 (eOf [(0, vR a0), (2, vI x2_36), (3, vI x3_54)]) [] h_54 := by
            intro n_54
            induction n_54 using Nat.strongRecOn with
            | _ n_54 ih_54 =>
            intro x3_54 h_54 hi9
            have hw := hst9 n_54 x3_54 h_54 hi9
            refine aw_iload_n (pc := 54) C dX2_work_54 rfl rfl ?_
            refine aw_aload_n (pc := 55) C dX2_work_55 rfl rfl ?_
            obtain ⟨hp9, b56, hb9, hw⟩ := hw
            refine aw_getR (pc := 56) C (ci := 2) (k := 5) ci2 (by decide) tw138 dX2_work_56 rfl hp9 hb9 ?_
            refine aw_iconst (pc := 59) C dX2_work_59 (i := (0 : Int)) (by decide) ?_
            obtain ⟨hp9, hw⟩ := hw
            refine aw_callV (pc := 60) (as := [vI (0 : Int)]) C ci4 (fun As hA => met_X4_text G l As b56 (0 : Int) _ _ hA hw) tw358 tw266 tw267 tw2 tw268 ⟨rfl, rfl⟩ ⟨rfl, by decide, by decide, pd_X4_text⟩ ⟨Nat.le_of_ble_eq_true rfl, Nat.le_of_ble_eq_true rfl⟩ ⟨Nat.zero_le _, Nat.zero_le _⟩ (Nat.le_of_ble_eq_true rfl) dX2_work_60 rfl hp9 (fun v9 h60 hq9 => ?_)
            obtain ⟨r60, rfl, hw⟩ := hq9
            obtain ⟨hp9, hw⟩ := hw
            refine aw_getI (pc := 63) C (ci := 5) (k := 2) ci5 (by decide) tw51 dX2_work_63 rfl hp9 ?_
            refine aw_icmp_ge (pc := 66) (tgt := 89) C dX2_work_66 (by decide) (fun hc9 => ?_) (fun hc9 => ?_)
            · have hw := hw.1 hc9
              refine aw_aload_n (pc := 89) C dX2_work_89 rfl rfl ?_
              refine aw_iload_n (pc := 90) C dX2_work_90 rfl rfl ?_
              obtain ⟨hp9, hw⟩ := hw
              refine aw_callV (pc := 91) (as := [vI x2_36]) C ci2 (fun As hA => met_X2_record G l As a0 x2_36 _ _ hA hw) tw363 tw365 (tbp 11 (n := 13) (by decide +kernel)) tw8 tw366 ⟨rfl, rfl⟩ ⟨rfl, by decide, by decide, pd_X2_record⟩ ⟨Nat.le_of_ble_eq_true rfl, Nat.le_of_ble_eq_true rfl⟩ ⟨Nat.zero_le _, Nat.zero_le _⟩ (Nat.le_of_ble_eq_true rfl) dX2_work_91 rfl hp9 (fun v9 h91 hq9 => ?_)
              obtain ⟨rfl, hw⟩ := hq9
              refine aw_aload_n (pc := 94) C dX2_work_94 rfl rfl ?_
              obtain ⟨hp9, hw⟩ := hw
              refine aw_getI (pc := 95) C (ci := 2) (k := 12) ci2 (by decide) tw145 dX2_work_95 rfl hp9 ?_
              obtain ⟨k_106, hk_106, hw⟩ := jn_out hw
              have J_106 : ∀ (t0_106 : Int) (h_106 : AH), k_106 t0_106 h_106 → AW G p l e ({ frames := 3, cells := 0, slots := 0, locals := 69 } : Room) s m args below meth c 0 0 (MQ below (QG G (oV Q)) args s 0 0 (frA G)) 106 (eOf [(0, vR a0), (2, vI x2_36)]) [vI t0_106] h_106 := by
                intro t0_106 h_106 hw
                rw [hk_106] at hw
                refine aw_istore_n (pc := 106) C dX2_work_106 rfl (by rw [hml]; decide) ?_
                obtain ⟨hp9, hw⟩ := hw
                refine aw_iincN (pc := 107) C dX2_work_107 (k := 1) (by decide) rfl (by rw [hml]; decide) hp9 (fun x2_107 e9 => ?_)
                have hw := hw x2_107 e9
                refine aw_goto (pc := 110) (tgt := 36) C dX2_work_110 (by decide) ?_
                obtain ⟨m9, hm9, hw⟩ := hw
                refine aw_sub [(0, vR a0), (1, vI t0_106), (2, vI x2_107)] ⟨rfl, rfl, rfl, trivial⟩ ?_
                exact ih_36 m9 hm9 _ _ _ hw
              refine aw_if_le (pc := 98) (tgt := 105) C dX2_work_98 (by decide) (fun hc9 => ?_) (fun hc9 => ?_)
              · have hw := hw.1 hc9
                refine aw_iconst (pc := 105) C dX2_work_105 (i := (0 : Int)) (by decide) ?_
                refine aw_sub [(0, vR a0), (2, vI x2_36)] ⟨rfl, rfl, trivial⟩ ?_
                exact J_106 _ _ hw
              · have hw := hw.2 hc9
                refine aw_iconst (pc := 101) C dX2_work_101 (i := (1 : Int)) (by decide) ?_
                refine aw_goto (pc := 102) (tgt := 106) C dX2_work_102 (by decide) ?_
                refine aw_sub [(0, vR a0), (2, vI x2_36)] ⟨rfl, rfl, trivial⟩ ?_
                exact J_106 _ _ hw
            · have hw := hw.2 hc9
              refine aw_aload_n (pc := 69) C dX2_work_69 rfl rfl ?_
              refine aw_iload_n (pc := 70) C dX2_work_70 rfl rfl ?_
              obtain ⟨hp9, hw⟩ := hw
              refine aw_callV (pc := 71) (as := [vI x3_54]) C ci2 (fun As hA => met_X2_isAway G l As a0 x3_54 _ _ hA hw) tw359 tw361 (tbp 10 (n := 13) (by decide +kernel)) tw8 tw362 ⟨rfl, rfl⟩ ⟨rfl, by decide, by decide, pd_X2_isAway⟩ ⟨Nat.le_of_ble_eq_true rfl, Nat.le_of_ble_eq_true rfl⟩ ⟨Nat.zero_le _, Nat.zero_le _⟩ (Nat.le_of_ble_eq_true rfl) dX2_work_71 rfl hp9 (fun v9 h71 hq9 => ?_)
              obtain ⟨r71, rfl, hw⟩ := hq9
              obtain ⟨k_83, hk_83, hw⟩ := jn_out hw
              have J_83 : ∀  (h_83 : AH), k_83  h_83 → AW G p l e ({ frames := 3, cells := 0, slots := 0, locals := 69 } : Room) s m args below meth c 0 0 (MQ below (QG G (oV Q)) args s 0 0 (frA G)) 83 (eOf [(0, vR a0), (2, vI x2_36), (3, vI x3_54)]) [] h_83 := by
                intro  h_83 hw
                rw [hk_83] at hw
                obtain ⟨hp9, hw⟩ := hw
                refine aw_iincN (pc := 83) C dX2_work_83 (k := 1) (by decide) rfl (by rw [hml]; decide) hp9 (fun x3_83 e9 => ?_)
                have hw := hw x3_83 e9
                refine aw_goto (pc := 86) (tgt := 54) C dX2_work_86 (by decide) ?_
                obtain ⟨m9, hm9, hw⟩ := hw
                refine aw_sub [(0, vR a0), (2, vI x2_36), (3, vI x3_83)] ⟨rfl, rfl, rfl, trivial⟩ ?_
                exact ih_54 m9 hm9 _ _ hw
              refine aw_if_eq (pc := 74) (tgt := 83) C dX2_work_74 (by decide) (fun hc9 => ?_) (fun hc9 => ?_)
              · have hw := hw.1 hc9
                refine aw_sub [(0, vR a0), (2, vI x2_36), (3, vI x3_54)] ⟨rfl, rfl, rfl, trivial⟩ ?_
                exact J_83  _ hw
              · have hw := hw.2 hc9
                refine aw_aload_n (pc := 77) C dX2_work_77 rfl rfl ?_
                refine aw_iload_n (pc := 78) C dX2_work_78 rfl rfl ?_
                refine aw_iload_n (pc := 79) C dX2_work_79 rfl rfl ?_
                obtain ⟨hp9, hw⟩ := hw
                refine aw_callV (pc := 80) (as := [vI x3_54, vI x2_36]) C ci2 (fun As hA => met_X2_moveOrHold G l As a0 x3_54 x2_36 _ _ hA hw) tw368 tw370 (tbp 12 (n := 13) (by decide +kernel)) tw8 tw371 ⟨rfl, rfl⟩ ⟨rfl, by decide, by decide, pd_X2_moveOrHold⟩ ⟨Nat.le_of_ble_eq_true rfl, Nat.le_of_ble_eq_true rfl⟩ ⟨Nat.zero_le _, Nat.zero_le _⟩ (Nat.le_of_ble_eq_true rfl) dX2_work_80 rfl hp9 (fun v9 h80 hq9 => ?_)
                obtain ⟨rfl, hw⟩ := hq9
                refine aw_sub [(0, vR a0), (2, vI x2_36), (3, vI x3_54)] ⟨rfl, rfl, rfl, trivial⟩ ?_
                exact J_83  _ hw
          refine aw_sub [(0, vR a0), (2, vI x2_36), (3, vI (0 : Int))] ⟨rfl, rfl, rfl, trivial⟩ ?_
          exact L_54 n9 _ _ hi9
    refine aw_sub [(0, vR a0), (1, vI t0_33), (2, vI (1 : Int))] ⟨rfl, rfl, rfl, trivial⟩ ?_
    exact L_36 n9 _ _ _ hi9
  obtain ⟨k_28, hk_28, hw⟩ := jn_out hw
  have J_28 : ∀  (h_28 : AH), k_28  h_28 → AW G p l e ({ frames := 3, cells := 0, slots := 0, locals := 69 } : Room) s m args below meth c 0 0 (MQ below (QG G (oV Q)) args s 0 0 (frA G)) 28 (eOf [(0, vR a0)]) [] h_28 := by
    intro  h_28 hw
    rw [hk_28] at hw
    refine aw_iconst (pc := 28) C dX2_work_28 (i := (1 : Int)) (by decide) ?_
    refine aw_goto (pc := 29) (tgt := 33) C dX2_work_29 (by decide) ?_
    refine aw_sub [(0, vR a0)] ⟨rfl, trivial⟩ ?_
    exact J_33 _ _ hw
  refine aw_if_gt (pc := 13) (tgt := 28) C dX2_work_13 (by decide) (fun hc9 => ?_) (fun hc9 => ?_)
  · have hw := hw.1 hc9
    refine aw_sub [(0, vR a0)] ⟨rfl, trivial⟩ ?_
    exact J_28  _ hw
  · have hw := hw.2 hc9
    refine aw_aload_n (pc := 16) C dX2_work_16 rfl rfl ?_
    obtain ⟨hp9, b17, hb9, hw⟩ := hw
    refine aw_getR (pc := 17) C (ci := 2) (k := 6) ci2 (by decide) tw139 dX2_work_17 rfl hp9 hb9 ?_
    obtain ⟨hp9, b20, hb9, hw⟩ := hw
    refine aw_getR (pc := 20) C (ci := 3) (k := 4) ci3 (by decide) tw102 dX2_work_20 rfl hp9 hb9 ?_
    refine aw_iconst (pc := 23) C dX2_work_23 (i := (3 : Int)) (by decide) ?_
    obtain ⟨⟨k9, hp9⟩, hw⟩ := hw
    refine aw_iald (pc := 24) C dX2_work_24 hp9 ?_
    refine aw_if_le (pc := 25) (tgt := 32) C dX2_work_25 (by decide) (fun hc9 => ?_) (fun hc9 => ?_)
    · have hw := hw.1 hc9
      refine aw_iconst (pc := 32) C dX2_work_32 (i := (0 : Int)) (by decide) ?_
      refine aw_sub [(0, vR a0)] ⟨rfl, trivial⟩ ?_
      exact J_33 _ _ hw
    · have hw := hw.2 hc9
      refine aw_sub [(0, vR a0)] ⟨rfl, trivial⟩ ?_
      exact J_28  _ hw
theorem dX2_cellAfter_0 : decode cX2_cellAfter 0 = .ok (.aload_n 0, 1) := by decide +kernel
theorem dX2_cellAfter_1 : decode cX2_cellAfter 1 = .ok (.getfield 40, 3) := by decide +kernel
theorem dX2_cellAfter_4 : decode cX2_cellAfter 4 = .ok (.iload_n 1, 1) := by decide +kernel
theorem dX2_cellAfter_5 : decode cX2_cellAfter 5 = .ok (.bipush 40, 2) := by decide +kernel
theorem dX2_cellAfter_7 : decode cX2_cellAfter 7 = .ok (.imul, 1) := by decide +kernel
theorem dX2_cellAfter_8 : decode cX2_cellAfter 8 = .ok (.iload_n 2, 1) := by decide +kernel
theorem dX2_cellAfter_9 : decode cX2_cellAfter 9 = .ok (.iadd, 1) := by decide +kernel
theorem dX2_cellAfter_10 : decode cX2_cellAfter 10 = .ok (.iaload, 1) := by decide +kernel
theorem dX2_cellAfter_11 : decode cX2_cellAfter 11 = .ok (.ireturn, 1) := by decide +kernel
theorem pd_X2_cellAfter : (parseMethodDescriptor yX2_cellAfter.desc).map (fun d => d.parameters.length) = some 2 := by decide +kernel
def w_X2_cellAfter (zz : Nat → Nat) (a0 : Nat) (a1 : Int) (a2 : Int) (h : AH) (Q : Int → AH → Prop) : Prop := okA h a0 2 ∧ ∃ b1 : Nat, hfR h a0 11 = some b1 ∧ inR (a1 * (40 : Int)) ∧ inR ((a1 * (40 : Int)) + a2) ∧ okI h b1 ((a1 * (40 : Int)) + a2) ∧ Q (haI h b1 ((a1 * (40 : Int)) + a2)) h
set_option maxRecDepth 100000 in
set_option maxHeartbeats 4000000 in
theorem met_X2_cellAfter (G : GG) (l : Launch) : ∀ (As : List Value) (a0 : Nat) (a1 : Int) (a2 : Int) (h : AH) (Q : Int → AH → Prop), As.map ab = List.map some ([vR a0, vI a1, vI a2] : List AV) → w_X2_cellAfter G.2.2 a0 a1 a2 h Q → Met l yX2_cellAfter (.code yX2_cellAfter cX2_cellAfter 3 (some .int) :: xTb) ({ frames := 0, cells := 0, slots := 0, locals := 0 } : Room) (PcA G As h) (QG G (oI Q)) 0 0 (frA G) := by
  intro As a0 a1 a2 h Q hA hw
  refine met_of hA (by decide) (Nat.le_of_ble_eq_true rfl) (fun p e s m args below meth c C hml hr hnm => ?_)
  unfold w_X2_cellAfter at hw
  refine aw_aload_n (pc := 0) C dX2_cellAfter_0 rfl rfl ?_
  obtain ⟨hp9, b1, hb9, hw⟩ := hw
  refine aw_getR (pc := 1) C (ci := 2) (k := 11) ci2 (by decide) tw144 dX2_cellAfter_1 rfl hp9 hb9 ?_
  refine aw_iload_n (pc := 4) C dX2_cellAfter_4 rfl rfl ?_
  refine aw_bipush (pc := 5) C dX2_cellAfter_5 (i := (40 : Int)) (by decide) ?_
  obtain ⟨hp9, hw⟩ := hw
  refine aw_imul (pc := 7) C dX2_cellAfter_7 hp9 ?_
  refine aw_iload_n (pc := 8) C dX2_cellAfter_8 rfl rfl ?_
  obtain ⟨hp9, hw⟩ := hw
  refine aw_iadd (pc := 9) C dX2_cellAfter_9 hp9 ?_
  obtain ⟨⟨k9, hp9⟩, hw⟩ := hw
  refine aw_iald (pc := 10) C dX2_cellAfter_10 hp9 ?_
  exact aw_iret (pc := 11) C hr dX2_cellAfter_11 ⟨Nat.le_of_ble_eq_true rfl, Nat.le_of_ble_eq_true rfl⟩ ⟨_, rfl, hw⟩
theorem dX2_isAtGoalAfter_0 : decode cX2_isAtGoalAfter 0 = .ok (.aload_n 0, 1) := by decide +kernel
theorem dX2_isAtGoalAfter_1 : decode cX2_isAtGoalAfter 1 = .ok (.iload_n 1, 1) := by decide +kernel
theorem dX2_isAtGoalAfter_2 : decode cX2_isAtGoalAfter 2 = .ok (.iload_n 2, 1) := by decide +kernel
theorem dX2_isAtGoalAfter_3 : decode cX2_isAtGoalAfter 3 = .ok (.invokevirtual 85, 3) := by decide +kernel
theorem dX2_isAtGoalAfter_6 : decode cX2_isAtGoalAfter 6 = .ok (.aload_n 0, 1) := by decide +kernel
theorem dX2_isAtGoalAfter_7 : decode cX2_isAtGoalAfter 7 = .ok (.getfield 9, 3) := by decide +kernel
theorem dX2_isAtGoalAfter_10 : decode cX2_isAtGoalAfter 10 = .ok (.iload_n 2, 1) := by decide +kernel
theorem dX2_isAtGoalAfter_11 : decode cX2_isAtGoalAfter 11 = .ok (.iaload, 1) := by decide +kernel
theorem dX2_isAtGoalAfter_12 : decode cX2_isAtGoalAfter 12 = .ok (.if_icmp .ne 7, 3) := by decide +kernel
theorem dX2_isAtGoalAfter_15 : decode cX2_isAtGoalAfter 15 = .ok (.iconst 1, 1) := by decide +kernel
theorem dX2_isAtGoalAfter_16 : decode cX2_isAtGoalAfter 16 = .ok (.goto 4, 3) := by decide +kernel
theorem dX2_isAtGoalAfter_19 : decode cX2_isAtGoalAfter 19 = .ok (.iconst 0, 1) := by decide +kernel
theorem dX2_isAtGoalAfter_20 : decode cX2_isAtGoalAfter 20 = .ok (.ireturn, 1) := by decide +kernel
theorem pd_X2_isAtGoalAfter : (parseMethodDescriptor yX2_isAtGoalAfter.desc).map (fun d => d.parameters.length) = some 2 := by decide +kernel
def w_X2_isAtGoalAfter (zz : Nat → Nat) (a0 : Nat) (a1 : Int) (a2 : Int) (h : AH) (Q : Int → AH → Prop) : Prop := okA h a0 2 ∧ w_X2_cellAfter zz a0 a1 a2 h (fun (r3 : Int) (h3 : AH) => okA h3 a0 2 ∧ ∃ b7 : Nat, hfR h3 a0 0 = some b7 ∧ okI h3 b7 a2 ∧ jn (fun (t0_20 : Int) (h_20 : AH) => (t0_20 = 0 ∨ t0_20 = 1) ∧ Q t0_20 h_20) (fun k_20 : Int → AH → Prop => ((¬ r3 = (haI h3 b7 a2)) → k_20 (0 : Int) h3) ∧ ((r3 = (haI h3 b7 a2)) → k_20 (1 : Int) h3)))
set_option maxRecDepth 100000 in
set_option maxHeartbeats 4000000 in
theorem met_X2_isAtGoalAfter (G : GG) (l : Launch) : ∀ (As : List Value) (a0 : Nat) (a1 : Int) (a2 : Int) (h : AH) (Q : Int → AH → Prop), As.map ab = List.map some ([vR a0, vI a1, vI a2] : List AV) → w_X2_isAtGoalAfter G.2.2 a0 a1 a2 h Q → Met l yX2_isAtGoalAfter (.code yX2_isAtGoalAfter cX2_isAtGoalAfter 3 (some .boolean) :: xTb) ({ frames := 1, cells := 0, slots := 0, locals := 22 } : Room) (PcA G As h) (QG G (oI Q)) 0 0 (frA G) := by
  intro As a0 a1 a2 h Q hA hw
  refine met_of hA (by decide) (Nat.le_of_ble_eq_true rfl) (fun p e s m args below meth c C hml hr hnm => ?_)
  unfold w_X2_isAtGoalAfter at hw
  refine aw_aload_n (pc := 0) C dX2_isAtGoalAfter_0 rfl rfl ?_
  refine aw_iload_n (pc := 1) C dX2_isAtGoalAfter_1 rfl rfl ?_
  refine aw_iload_n (pc := 2) C dX2_isAtGoalAfter_2 rfl rfl ?_
  obtain ⟨hp9, hw⟩ := hw
  refine aw_callV (pc := 3) (as := [vI a1, vI a2]) C ci2 (fun As hA => met_X2_cellAfter G l As a0 a1 a2 _ _ hA hw) tw506 tw495 tw496 tw8 tw497 ⟨rfl, rfl⟩ ⟨rfl, by decide, by decide, pd_X2_cellAfter⟩ ⟨Nat.le_of_ble_eq_true rfl, Nat.le_of_ble_eq_true rfl⟩ ⟨Nat.zero_le _, Nat.zero_le _⟩ (Nat.le_of_ble_eq_true rfl) dX2_isAtGoalAfter_3 rfl hp9 (fun v9 h3 hq9 => ?_)
  obtain ⟨r3, rfl, hw⟩ := hq9
  refine aw_aload_n (pc := 6) C dX2_isAtGoalAfter_6 rfl rfl ?_
  obtain ⟨hp9, b7, hb9, hw⟩ := hw
  refine aw_getR (pc := 7) C (ci := 2) (k := 0) ci2 (by decide) tw128 dX2_isAtGoalAfter_7 rfl hp9 hb9 ?_
  refine aw_iload_n (pc := 10) C dX2_isAtGoalAfter_10 rfl rfl ?_
  obtain ⟨⟨k9, hp9⟩, hw⟩ := hw
  refine aw_iald (pc := 11) C dX2_isAtGoalAfter_11 hp9 ?_
  obtain ⟨k_20, hk_20, hw⟩ := jn_out hw
  have J_20 : ∀ (t0_20 : Int) (h_20 : AH), k_20 t0_20 h_20 → AW G p l e ({ frames := 1, cells := 0, slots := 0, locals := 22 } : Room) s m args below meth c 0 0 (MQ below (QG G (oI Q)) args s 0 0 (frA G)) 20 (eOf []) [vI t0_20] h_20 := by
    intro t0_20 h_20 hw
    rw [hk_20] at hw
    obtain ⟨hp9, hw⟩ := hw
    exact aw_zret (pc := 20) C hr dX2_isAtGoalAfter_20 ⟨Nat.le_of_ble_eq_true rfl, Nat.le_of_ble_eq_true rfl⟩ hp9 ⟨_, rfl, hw⟩
  refine aw_icmp_ne (pc := 12) (tgt := 19) C dX2_isAtGoalAfter_12 (by decide) (fun hc9 => ?_) (fun hc9 => ?_)
  · have hw := hw.1 hc9
    refine aw_iconst (pc := 19) C dX2_isAtGoalAfter_19 (i := (0 : Int)) (by decide) ?_
    refine aw_sub [] trivial ?_
    exact J_20 _ _ hw
  · have hw := hw.2 hc9
    refine aw_iconst (pc := 15) C dX2_isAtGoalAfter_15 (i := (1 : Int)) (by decide) ?_
    refine aw_goto (pc := 16) (tgt := 20) C dX2_isAtGoalAfter_16 (by decide) ?_
    refine aw_sub [] trivial ?_
    exact J_20 _ _ hw
theorem dX2_heldIn_0 : decode cX2_heldIn 0 = .ok (.iload_n 1, 1) := by decide +kernel
theorem dX2_heldIn_1 : decode cX2_heldIn 1 = .ok (.iconst 1, 1) := by decide +kernel
theorem dX2_heldIn_2 : decode cX2_heldIn 2 = .ok (.if_icmp .lt 20, 3) := by decide +kernel
theorem dX2_heldIn_5 : decode cX2_heldIn 5 = .ok (.iload_n 1, 1) := by decide +kernel
theorem dX2_heldIn_6 : decode cX2_heldIn 6 = .ok (.aload_n 0, 1) := by decide +kernel
theorem dX2_heldIn_7 : decode cX2_heldIn 7 = .ok (.getfield 21, 3) := by decide +kernel
theorem dX2_heldIn_10 : decode cX2_heldIn 10 = .ok (.if_icmp .gt 12, 3) := by decide +kernel
theorem dX2_heldIn_13 : decode cX2_heldIn 13 = .ok (.aload_n 0, 1) := by decide +kernel
theorem dX2_heldIn_14 : decode cX2_heldIn 14 = .ok (.getfield 37, 3) := by decide +kernel
theorem dX2_heldIn_17 : decode cX2_heldIn 17 = .ok (.iload_n 1, 1) := by decide +kernel
theorem dX2_heldIn_18 : decode cX2_heldIn 18 = .ok (.iaload, 1) := by decide +kernel
theorem dX2_heldIn_19 : decode cX2_heldIn 19 = .ok (.goto 4, 3) := by decide +kernel
theorem dX2_heldIn_22 : decode cX2_heldIn 22 = .ok (.iconst 0, 1) := by decide +kernel
theorem dX2_heldIn_23 : decode cX2_heldIn 23 = .ok (.ireturn, 1) := by decide +kernel
theorem pd_X2_heldIn : (parseMethodDescriptor yX2_heldIn.desc).map (fun d => d.parameters.length) = some 1 := by decide +kernel
def w_X2_heldIn (zz : Nat → Nat) (a0 : Nat) (a1 : Int) (h : AH) (Q : Int → AH → Prop) : Prop := jn (fun (t0_23 : Int) (h_23 : AH) => Q t0_23 h_23) (fun k_23 : Int → AH → Prop => jn (fun  (h_22 : AH) => k_23 (0 : Int) h_22) (fun k_22 : AH → Prop => ((a1 < (1 : Int)) → k_22  h) ∧ ((¬ (a1 < (1 : Int))) → okA h a0 2 ∧ (((hfI h a0 3) < a1) → k_22  h) ∧ ((¬ ((hfI h a0 3) < a1)) → okA h a0 2 ∧ ∃ b14 : Nat, hfR h a0 10 = some b14 ∧ okI h b14 a1 ∧ k_23 (haI h b14 a1) h))))
set_option maxRecDepth 100000 in
set_option maxHeartbeats 4000000 in
theorem met_X2_heldIn (G : GG) (l : Launch) : ∀ (As : List Value) (a0 : Nat) (a1 : Int) (h : AH) (Q : Int → AH → Prop), As.map ab = List.map some ([vR a0, vI a1] : List AV) → w_X2_heldIn G.2.2 a0 a1 h Q → Met l yX2_heldIn (.code yX2_heldIn cX2_heldIn 2 (some .int) :: xTb) ({ frames := 0, cells := 0, slots := 0, locals := 0 } : Room) (PcA G As h) (QG G (oI Q)) 0 0 (frA G) := by
  intro As a0 a1 h Q hA hw
  refine met_of hA (by decide) (Nat.le_of_ble_eq_true rfl) (fun p e s m args below meth c C hml hr hnm => ?_)
  unfold w_X2_heldIn at hw
  refine aw_iload_n (pc := 0) C dX2_heldIn_0 rfl rfl ?_
  refine aw_iconst (pc := 1) C dX2_heldIn_1 (i := (1 : Int)) (by decide) ?_
  obtain ⟨k_23, hk_23, hw⟩ := jn_out hw
  have J_23 : ∀ (t0_23 : Int) (h_23 : AH), k_23 t0_23 h_23 → AW G p l e ({ frames := 0, cells := 0, slots := 0, locals := 0 } : Room) s m args below meth c 0 0 (MQ below (QG G (oI Q)) args s 0 0 (frA G)) 23 (eOf []) [vI t0_23] h_23 := by
    intro t0_23 h_23 hw
    rw [hk_23] at hw
    exact aw_iret (pc := 23) C hr dX2_heldIn_23 ⟨Nat.le_of_ble_eq_true rfl, Nat.le_of_ble_eq_true rfl⟩ ⟨_, rfl, hw⟩
  obtain ⟨k_22, hk_22, hw⟩ := jn_out hw
  have J_22 : ∀  (h_22 : AH), k_22  h_22 → AW G p l e ({ frames := 0, cells := 0, slots := 0, locals := 0 } : Room) s m args below meth c 0 0 (MQ below (QG G (oI Q)) args s 0 0 (frA G)) 22 (eOf []) [] h_22 := by
    intro  h_22 hw
    rw [hk_22] at hw
    refine aw_iconst (pc := 22) C dX2_heldIn_22 (i := (0 : Int)) (by decide) ?_
    refine aw_sub [] trivial ?_
    exact J_23 _ _ hw
  refine aw_icmp_lt (pc := 2) (tgt := 22) C dX2_heldIn_2 (by decide) (fun hc9 => ?_) (fun hc9 => ?_)
  · have hw := hw.1 hc9
    refine aw_sub [] trivial ?_
    exact J_22  _ hw
  · have hw := hw.2 hc9
    refine aw_iload_n (pc := 5) C dX2_heldIn_5 rfl rfl ?_
    refine aw_aload_n (pc := 6) C dX2_heldIn_6 rfl rfl ?_
    obtain ⟨hp9, hw⟩ := hw
    refine aw_getI (pc := 7) C (ci := 2) (k := 3) ci2 (by decide) tw133 dX2_heldIn_7 rfl hp9 ?_
    refine aw_icmp_gt (pc := 10) (tgt := 22) C dX2_heldIn_10 (by decide) (fun hc9 => ?_) (fun hc9 => ?_)
    · have hw := hw.1 hc9
      refine aw_sub [] trivial ?_
      exact J_22  _ hw
    · have hw := hw.2 hc9
      refine aw_aload_n (pc := 13) C dX2_heldIn_13 rfl rfl ?_
      obtain ⟨hp9, b14, hb9, hw⟩ := hw
      refine aw_getR (pc := 14) C (ci := 2) (k := 10) ci2 (by decide) tw143 dX2_heldIn_14 rfl hp9 hb9 ?_
      refine aw_iload_n (pc := 17) C dX2_heldIn_17 rfl rfl ?_
      obtain ⟨⟨k9, hp9⟩, hw⟩ := hw
      refine aw_iald (pc := 18) C dX2_heldIn_18 hp9 ?_
      refine aw_goto (pc := 19) (tgt := 23) C dX2_heldIn_19 (by decide) ?_
      refine aw_sub [] trivial ?_
      exact J_23 _ _ hw
