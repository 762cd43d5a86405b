/-! THE METHODS, BY PROGRAM (wip/whole/gen.py): what each means (w_..), and its contract (met_..) -/
theorem dL_cell_0 : decode cL_cell 0 = .ok (.iload_n 1, 1) := by decide +kernel
theorem dL_cell_1 : decode cL_cell 1 = .ok (.aload_n 0, 1) := by decide +kernel
theorem dL_cell_2 : decode cL_cell 2 = .ok (.arraylength, 1) := by decide +kernel
theorem dL_cell_3 : decode cL_cell 3 = .ok (.if_icmp .ge 9, 3) := by decide +kernel
theorem dL_cell_6 : decode cL_cell 6 = .ok (.aload_n 0, 1) := by decide +kernel
theorem dL_cell_7 : decode cL_cell 7 = .ok (.iload_n 1, 1) := by decide +kernel
theorem dL_cell_8 : decode cL_cell 8 = .ok (.iaload, 1) := by decide +kernel
theorem dL_cell_9 : decode cL_cell 9 = .ok (.goto 9, 3) := by decide +kernel
theorem dL_cell_12 : decode cL_cell 12 = .ok (.ldc 7, 2) := by decide +kernel
theorem dL_cell_14 : decode cL_cell 14 = .ok (.iload_n 1, 1) := by decide +kernel
theorem dL_cell_15 : decode cL_cell 15 = .ok (.iconst 1, 1) := by decide +kernel
theorem dL_cell_16 : decode cL_cell 16 = .ok (.iadd, 1) := by decide +kernel
theorem dL_cell_17 : decode cL_cell 17 = .ok (.imul, 1) := by decide +kernel
theorem dL_cell_18 : decode cL_cell 18 = .ok (.ireturn, 1) := by decide +kernel
theorem pd_L_cell : (parseMethodDescriptor yL_cell.desc).map (fun d => d.parameters.length) = some 2 := by decide +kernel
def w_L_cell (zz : Nat → Nat) (a0 : Nat) (a1 : Int) (h : AH) (Q : Int → AH → Prop) : Prop := ∃ k2 : Nat, hkd h a0 = (1, k2) ∧ jn (fun (t0_18 : Int) (h_18 : AH) => Q t0_18 h_18) (fun k_18 : Int → AH → Prop => (((k2 : Int) ≤ a1) → inR (a1 + (1 : Int)) ∧ ∀ v17 : Int, inR v17 → k_18 v17 h) ∧ ((¬ ((k2 : Int) ≤ a1)) → okI h a0 a1 ∧ k_18 (haI h a0 a1) h))
set_option maxRecDepth 100000 in
set_option maxHeartbeats 4000000 in
theorem met_L_cell (G : GG) (l : Launch) : ∀ (As : List Value) (a0 : Nat) (a1 : Int) (h : AH) (Q : Int → AH → Prop), As.map ab = List.map some ([vR a0, vI a1] : List AV) → w_L_cell G.2.2 a0 a1 h Q → Met l yL_cell (.code yL_cell cL_cell 2 (some .int) :: xTb) ({ frames := 0, cells := 0, slots := 0, locals := 0 } : Room) (PcA G As h) (QG G (oI Q)) 0 0 (frA G) := by
  intro As a0 a1 h Q hA hw
  refine met_of hA (by decide) (Nat.le_of_ble_eq_true rfl) (fun p e s m args below meth c C hml hr hnm => ?_)
  unfold w_L_cell at hw
  refine aw_iload_n (pc := 0) C dL_cell_0 rfl rfl ?_
  refine aw_aload_n (pc := 1) C dL_cell_1 rfl rfl ?_
  obtain ⟨k2, hp9, hw⟩ := hw
  refine aw_alen (pc := 2) C dL_cell_2 hp9 ?_
  obtain ⟨k_18, hk_18, hw⟩ := jn_out hw
  have J_18 : ∀ (t0_18 : Int) (h_18 : AH), k_18 t0_18 h_18 → AW G p l e ({ frames := 0, cells := 0, slots := 0, locals := 0 } : Room) s m args below meth c 0 0 (MQ below (QG G (oI Q)) args s 0 0 (frA G)) 18 (eOf []) [vI t0_18] h_18 := by
    intro t0_18 h_18 hw
    rw [hk_18] at hw
    exact aw_iret (pc := 18) C hr dL_cell_18 ⟨Nat.le_of_ble_eq_true rfl, Nat.le_of_ble_eq_true rfl⟩ ⟨_, rfl, hw⟩
  refine aw_icmp_ge (pc := 3) (tgt := 12) C dL_cell_3 (by decide) (fun hc9 => ?_) (fun hc9 => ?_)
  · have hw := hw.1 hc9
    refine aw_ldcI (pc := 12) C (i := (739982445 : Int)) tw446 (by decide +kernel) dL_cell_12 ?_
    refine aw_iload_n (pc := 14) C dL_cell_14 rfl rfl ?_
    refine aw_iconst (pc := 15) C dL_cell_15 (i := (1 : Int)) (by decide) ?_
    obtain ⟨hp9, hw⟩ := hw
    refine aw_iadd (pc := 16) C dL_cell_16 hp9 ?_
    refine aw_imulW (pc := 17) C dL_cell_17 (fun v17 hp9 => ?_)
    have hw := hw v17 hp9
    refine aw_sub [] trivial ?_
    exact J_18 _ _ hw
  · have hw := hw.2 hc9
    refine aw_aload_n (pc := 6) C dL_cell_6 rfl rfl ?_
    refine aw_iload_n (pc := 7) C dL_cell_7 rfl rfl ?_
    obtain ⟨⟨k9, hp9⟩, hw⟩ := hw
    refine aw_iald (pc := 8) C dL_cell_8 hp9 ?_
    refine aw_goto (pc := 9) (tgt := 18) C dL_cell_9 (by decide) ?_
    refine aw_sub [] trivial ?_
    exact J_18 _ _ hw
theorem dL_at_0 : decode cL_at 0 = .ok (.iload_n 0, 1) := by decide +kernel
theorem dL_at_1 : decode cL_at 1 = .ok (.iconst 1, 1) := by decide +kernel
theorem dL_at_2 : decode cL_at 2 = .ok (.iushr, 1) := by decide +kernel
theorem dL_at_3 : decode cL_at 3 = .ok (.iload_n 1, 1) := by decide +kernel
theorem dL_at_4 : decode cL_at 4 = .ok (.irem, 1) := by decide +kernel
theorem dL_at_5 : decode cL_at 5 = .ok (.ireturn, 1) := by decide +kernel
theorem pd_L_at : (parseMethodDescriptor yL_at.desc).map (fun d => d.parameters.length) = some 2 := by decide +kernel
def w_L_at (zz : Nat → Nat) (a0 : Int) (a1 : Int) (h : AH) (Q : Int → AH → Prop) : Prop := ∀ v2 : Int, (0 ≤ v2 ∧ v2 ≤ 2147483647) → (0 ≤ v2 ∧ 0 < a1) ∧ Q (v2 % a1) h
set_option maxRecDepth 100000 in
set_option maxHeartbeats 4000000 in
theorem met_L_at (G : GG) (l : Launch) : ∀ (As : List Value) (a0 : Int) (a1 : Int) (h : AH) (Q : Int → AH → Prop), As.map ab = List.map some ([vI a0, vI a1] : List AV) → w_L_at G.2.2 a0 a1 h Q → Met l yL_at (.code yL_at cL_at 2 (some .int) :: xTb) ({ frames := 0, cells := 0, slots := 0, locals := 0 } : Room) (PcA G As h) (QG G (oI Q)) 0 0 (frA G) := by
  intro As a0 a1 h Q hA hw
  refine met_of hA (by decide) (Nat.le_of_ble_eq_true rfl) (fun p e s m args below meth c C hml hr hnm => ?_)
  unfold w_L_at at hw
  refine aw_iload_n (pc := 0) C dL_at_0 rfl rfl ?_
  refine aw_iconst (pc := 1) C dL_at_1 (i := (1 : Int)) (by decide) ?_
  refine aw_iushr1 (pc := 2) C dL_at_2 (fun v2 hp9 => ?_)
  have hw := hw v2 hp9
  refine aw_iload_n (pc := 3) C dL_at_3 rfl rfl ?_
  obtain ⟨hp9, hw⟩ := hw
  refine aw_irem (pc := 4) C dL_at_4 hp9 ?_
  exact aw_iret (pc := 5) C hr dL_at_5 ⟨Nat.le_of_ble_eq_true rfl, Nat.le_of_ble_eq_true rfl⟩ ⟨_, rfl, hw⟩
theorem dL_abs_0 : decode cL_abs 0 = .ok (.iload_n 0, 1) := by decide +kernel
theorem dL_abs_1 : decode cL_abs 1 = .ok (.ifCond .ge 8, 3) := by decide +kernel
theorem dL_abs_4 : decode cL_abs 4 = .ok (.iload_n 0, 1) := by decide +kernel
theorem dL_abs_5 : decode cL_abs 5 = .ok (.ineg, 1) := by decide +kernel
theorem dL_abs_6 : decode cL_abs 6 = .ok (.goto 4, 3) := by decide +kernel
theorem dL_abs_9 : decode cL_abs 9 = .ok (.iload_n 0, 1) := by decide +kernel
theorem dL_abs_10 : decode cL_abs 10 = .ok (.ireturn, 1) := by decide +kernel
theorem pd_L_abs : (parseMethodDescriptor yL_abs.desc).map (fun d => d.parameters.length) = some 1 := by decide +kernel
def w_L_abs (zz : Nat → Nat) (a0 : Int) (h : AH) (Q : Int → AH → Prop) : Prop := jn (fun (t0_10 : Int) (h_10 : AH) => Q t0_10 h_10) (fun k_10 : Int → AH → Prop => ((0 ≤ a0) → k_10 a0 h) ∧ ((¬ (0 ≤ a0)) → inR (-a0) ∧ k_10 (-a0) h))
set_option maxRecDepth 100000 in
set_option maxHeartbeats 4000000 in
theorem met_L_abs (G : GG) (l : Launch) : ∀ (As : List Value) (a0 : Int) (h : AH) (Q : Int → AH → Prop), As.map ab = List.map some ([vI a0] : List AV) → w_L_abs G.2.2 a0 h Q → Met l yL_abs (.code yL_abs cL_abs 1 (some .int) :: xTb) ({ frames := 0, cells := 0, slots := 0, locals := 0 } : Room) (PcA G As h) (QG G (oI Q)) 0 0 (frA G) := by
  intro As a0 h Q hA hw
  refine met_of hA (by decide) (Nat.le_of_ble_eq_true rfl) (fun p e s m args below meth c C hml hr hnm => ?_)
  unfold w_L_abs at hw
  refine aw_iload_n (pc := 0) C dL_abs_0 rfl rfl ?_
  obtain ⟨k_10, hk_10, hw⟩ := jn_out hw
  have J_10 : ∀ (t0_10 : Int) (h_10 : AH), k_10 t0_10 h_10 → AW G p l e ({ frames := 0, cells := 0, slots := 0, locals := 0 } : Room) s m args below meth c 0 0 (MQ below (QG G (oI Q)) args s 0 0 (frA G)) 10 (eOf []) [vI t0_10] h_10 := by
    intro t0_10 h_10 hw
    rw [hk_10] at hw
    exact aw_iret (pc := 10) C hr dL_abs_10 ⟨Nat.le_of_ble_eq_true rfl, Nat.le_of_ble_eq_true rfl⟩ ⟨_, rfl, hw⟩
  refine aw_if_ge (pc := 1) (tgt := 9) C dL_abs_1 (by decide) (fun hc9 => ?_) (fun hc9 => ?_)
  · have hw := hw.1 hc9
    refine aw_iload_n (pc := 9) C dL_abs_9 rfl rfl ?_
    refine aw_sub [] trivial ?_
    exact J_10 _ _ hw
  · have hw := hw.2 hc9
    refine aw_iload_n (pc := 4) C dL_abs_4 rfl rfl ?_
    obtain ⟨hp9, hw⟩ := hw
    refine aw_ineg (pc := 5) C dL_abs_5 hp9 ?_
    refine aw_goto (pc := 6) (tgt := 10) C dL_abs_6 (by decide) ?_
    refine aw_sub [] trivial ?_
    exact J_10 _ _ hw
theorem dL_far_0 : decode cL_far 0 = .ok (.aload_n 2, 1) := by decide +kernel
theorem dL_far_1 : decode cL_far 1 = .ok (.iconst 2, 1) := by decide +kernel
theorem dL_far_2 : decode cL_far 2 = .ok (.iload_n 0, 1) := by decide +kernel
theorem dL_far_3 : decode cL_far 3 = .ok (.imul, 1) := by decide +kernel
theorem dL_far_4 : decode cL_far 4 = .ok (.iaload, 1) := by decide +kernel
theorem dL_far_5 : decode cL_far 5 = .ok (.bipush 16, 2) := by decide +kernel
theorem dL_far_7 : decode cL_far 7 = .ok (.irem, 1) := by decide +kernel
theorem dL_far_8 : decode cL_far 8 = .ok (.aload_n 3, 1) := by decide +kernel
theorem dL_far_9 : decode cL_far 9 = .ok (.iconst 2, 1) := by decide +kernel
theorem dL_far_10 : decode cL_far 10 = .ok (.iload_n 1, 1) := by decide +kernel
theorem dL_far_11 : decode cL_far 11 = .ok (.imul, 1) := by decide +kernel
theorem dL_far_12 : decode cL_far 12 = .ok (.iaload, 1) := by decide +kernel
theorem dL_far_13 : decode cL_far 13 = .ok (.bipush 16, 2) := by decide +kernel
theorem dL_far_15 : decode cL_far 15 = .ok (.irem, 1) := by decide +kernel
theorem dL_far_16 : decode cL_far 16 = .ok (.isub, 1) := by decide +kernel
theorem dL_far_17 : decode cL_far 17 = .ok (.invokestatic 8, 3) := by decide +kernel
theorem dL_far_20 : decode cL_far 20 = .ok (.aload 4, 2) := by decide +kernel
theorem dL_far_22 : decode cL_far 22 = .ok (.iconst 0, 1) := by decide +kernel
theorem dL_far_23 : decode cL_far 23 = .ok (.iaload, 1) := by decide +kernel
theorem dL_far_24 : decode cL_far 24 = .ok (.aload_n 2, 1) := by decide +kernel
theorem dL_far_25 : decode cL_far 25 = .ok (.iconst 2, 1) := by decide +kernel
theorem dL_far_26 : decode cL_far 26 = .ok (.iload_n 0, 1) := by decide +kernel
theorem dL_far_27 : decode cL_far 27 = .ok (.imul, 1) := by decide +kernel
theorem dL_far_28 : decode cL_far 28 = .ok (.iaload, 1) := by decide +kernel
theorem dL_far_29 : decode cL_far 29 = .ok (.bipush 16, 2) := by decide +kernel
theorem dL_far_31 : decode cL_far 31 = .ok (.idiv, 1) := by decide +kernel
theorem dL_far_32 : decode cL_far 32 = .ok (.aload_n 3, 1) := by decide +kernel
theorem dL_far_33 : decode cL_far 33 = .ok (.iconst 2, 1) := by decide +kernel
theorem dL_far_34 : decode cL_far 34 = .ok (.iload_n 1, 1) := by decide +kernel
theorem dL_far_35 : decode cL_far 35 = .ok (.imul, 1) := by decide +kernel
theorem dL_far_36 : decode cL_far 36 = .ok (.iaload, 1) := by decide +kernel
theorem dL_far_37 : decode cL_far 37 = .ok (.bipush 16, 2) := by decide +kernel
theorem dL_far_39 : decode cL_far 39 = .ok (.idiv, 1) := by decide +kernel
theorem dL_far_40 : decode cL_far 40 = .ok (.isub, 1) := by decide +kernel
theorem dL_far_41 : decode cL_far 41 = .ok (.invokestatic 8, 3) := by decide +kernel
theorem dL_far_44 : decode cL_far 44 = .ok (.imul, 1) := by decide +kernel
theorem dL_far_45 : decode cL_far 45 = .ok (.iadd, 1) := by decide +kernel
theorem dL_far_46 : decode cL_far 46 = .ok (.ireturn, 1) := by decide +kernel
theorem pd_L_far : (parseMethodDescriptor yL_far.desc).map (fun d => d.parameters.length) = some 5 := by decide +kernel
def w_L_far (zz : Nat → Nat) (a0 : Int) (a1 : Int) (a2 : Nat) (a3 : Nat) (a4 : Nat) (h : AH) (Q : Int → AH → Prop) : Prop := inR ((2 : Int) * a0) ∧ okI h a2 ((2 : Int) * a0) ∧ (0 ≤ (haI h a2 ((2 : Int) * a0)) ∧ 0 < (16 : Int)) ∧ inR ((2 : Int) * a1) ∧ okI h a3 ((2 : Int) * a1) ∧ (0 ≤ (haI h a3 ((2 : Int) * a1)) ∧ 0 < (16 : Int)) ∧ inR (((haI h a2 ((2 : Int) * a0)) % (16 : Int)) - ((haI h a3 ((2 : Int) * a1)) % (16 : Int))) ∧ w_L_abs zz (((haI h a2 ((2 : Int) * a0)) % (16 : Int)) - ((haI h a3 ((2 : Int) * a1)) % (16 : Int))) h (fun (r17 : Int) (h17 : AH) => okI h17 a4 (0 : Int) ∧ inR ((2 : Int) * a0) ∧ okI h17 a2 ((2 : Int) * a0) ∧ (0 ≤ (haI h17 a2 ((2 : Int) * a0)) ∧ 0 < (16 : Int)) ∧ inR ((2 : Int) * a1) ∧ okI h17 a3 ((2 : Int) * a1) ∧ (0 ≤ (haI h17 a3 ((2 : Int) * a1)) ∧ 0 < (16 : Int)) ∧ inR (((haI h17 a2 ((2 : Int) * a0)) / (16 : Int)) - ((haI h17 a3 ((2 : Int) * a1)) / (16 : Int))) ∧ w_L_abs zz (((haI h17 a2 ((2 : Int) * a0)) / (16 : Int)) - ((haI h17 a3 ((2 : Int) * a1)) / (16 : Int))) h17 (fun (r41 : Int) (h41 : AH) => inR ((haI h17 a4 (0 : Int)) * r41) ∧ inR (r17 + ((haI h17 a4 (0 : Int)) * r41)) ∧ Q (r17 + ((haI h17 a4 (0 : Int)) * r41)) h41))
set_option maxRecDepth 100000 in
set_option maxHeartbeats 4000000 in
theorem met_L_far (G : GG) (l : Launch) : ∀ (As : List Value) (a0 : Int) (a1 : Int) (a2 : Nat) (a3 : Nat) (a4 : Nat) (h : AH) (Q : Int → AH → Prop), As.map ab = List.map some ([vI a0, vI a1, vR a2, vR a3, vR a4] : List AV) → w_L_far G.2.2 a0 a1 a2 a3 a4 h Q → Met l yL_far (.code yL_far cL_far 5 (some .int) :: xTb) ({ frames := 1, cells := 0, slots := 0, locals := 20 } : Room) (PcA G As h) (QG G (oI Q)) 0 0 (frA G) := by
  intro As a0 a1 a2 a3 a4 h Q hA hw
  refine met_of hA (by decide) (Nat.le_of_ble_eq_true rfl) (fun p e s m args below meth c C hml hr hnm => ?_)
  unfold w_L_far at hw
  refine aw_aload_n (pc := 0) C dL_far_0 rfl rfl ?_
  refine aw_iconst (pc := 1) C dL_far_1 (i := (2 : Int)) (by decide) ?_
  refine aw_iload_n (pc := 2) C dL_far_2 rfl rfl ?_
  obtain ⟨hp9, hw⟩ := hw
  refine aw_imul (pc := 3) C dL_far_3 hp9 ?_
  obtain ⟨⟨k9, hp9⟩, hw⟩ := hw
  refine aw_iald (pc := 4) C dL_far_4 hp9 ?_
  refine aw_bipush (pc := 5) C dL_far_5 (i := (16 : Int)) (by decide) ?_
  obtain ⟨hp9, hw⟩ := hw
  refine aw_irem (pc := 7) C dL_far_7 hp9 ?_
  refine aw_aload_n (pc := 8) C dL_far_8 rfl rfl ?_
  refine aw_iconst (pc := 9) C dL_far_9 (i := (2 : Int)) (by decide) ?_
  refine aw_iload_n (pc := 10) C dL_far_10 rfl rfl ?_
  obtain ⟨hp9, hw⟩ := hw
  refine aw_imul (pc := 11) C dL_far_11 hp9 ?_
  obtain ⟨⟨k9, hp9⟩, hw⟩ := hw
  refine aw_iald (pc := 12) C dL_far_12 hp9 ?_
  refine aw_bipush (pc := 13) C dL_far_13 (i := (16 : Int)) (by decide) ?_
  obtain ⟨hp9, hw⟩ := hw
  refine aw_irem (pc := 15) C dL_far_15 hp9 ?_
  obtain ⟨hp9, hw⟩ := hw
  refine aw_isub (pc := 16) C dL_far_16 hp9 ?_
  refine aw_callS (pc := 17) (as := [vI (((haI h a2 ((2 : Int) * a0)) % (16 : Int)) - ((haI h a3 ((2 : Int) * a1)) % (16 : Int)))]) C (fun As hA => met_L_abs G l As (((haI h a2 ((2 : Int) * a0)) % (16 : Int)) - ((haI h a3 ((2 : Int) * a1)) % (16 : Int))) _ _ hA hw) tw465 tw466 tw0 tw467 ⟨rfl, rfl⟩ ⟨by decide, by decide, pd_L_abs⟩ ⟨Nat.le_of_ble_eq_true rfl, Nat.le_of_ble_eq_true rfl⟩ ⟨Nat.zero_le _, Nat.zero_le _⟩ (Nat.le_of_ble_eq_true rfl) dL_far_17 rfl (fun v9 h17 hq9 => ?_)
  obtain ⟨r17, rfl, hw⟩ := hq9
  refine aw_aload (pc := 20) C dL_far_20 rfl ?_
  refine aw_iconst (pc := 22) C dL_far_22 (i := (0 : Int)) (by decide) ?_
  obtain ⟨⟨k9, hp9⟩, hw⟩ := hw
  refine aw_iald (pc := 23) C dL_far_23 hp9 ?_
  refine aw_aload_n (pc := 24) C dL_far_24 rfl rfl ?_
  refine aw_iconst (pc := 25) C dL_far_25 (i := (2 : Int)) (by decide) ?_
  refine aw_iload_n (pc := 26) C dL_far_26 rfl rfl ?_
  obtain ⟨hp9, hw⟩ := hw
  refine aw_imul (pc := 27) C dL_far_27 hp9 ?_
  obtain ⟨⟨k9, hp9⟩, hw⟩ := hw
  refine aw_iald (pc := 28) C dL_far_28 hp9 ?_
  refine aw_bipush (pc := 29) C dL_far_29 (i := (16 : Int)) (by decide) ?_
  obtain ⟨hp9, hw⟩ := hw
  refine aw_idiv (pc := 31) C dL_far_31 hp9 ?_
  refine aw_aload_n (pc := 32) C dL_far_32 rfl rfl ?_
  refine aw_iconst (pc := 33) C dL_far_33 (i := (2 : Int)) (by decide) ?_
  refine aw_iload_n (pc := 34) C dL_far_34 rfl rfl ?_
  obtain ⟨hp9, hw⟩ := hw
  refine aw_imul (pc := 35) C dL_far_35 hp9 ?_
  obtain ⟨⟨k9, hp9⟩, hw⟩ := hw
  refine aw_iald (pc := 36) C dL_far_36 hp9 ?_
  refine aw_bipush (pc := 37) C dL_far_37 (i := (16 : Int)) (by decide) ?_
  obtain ⟨hp9, hw⟩ := hw
  refine aw_idiv (pc := 39) C dL_far_39 hp9 ?_
  obtain ⟨hp9, hw⟩ := hw
  refine aw_isub (pc := 40) C dL_far_40 hp9 ?_
  refine aw_callS (pc := 41) (as := [vI (((haI h17 a2 ((2 : Int) * a0)) / (16 : Int)) - ((haI h17 a3 ((2 : Int) * a1)) / (16 : Int)))]) C (fun As hA => met_L_abs G l As (((haI h17 a2 ((2 : Int) * a0)) / (16 : Int)) - ((haI h17 a3 ((2 : Int) * a1)) / (16 : Int))) _ _ hA hw) tw465 tw466 tw0 tw467 ⟨rfl, rfl⟩ ⟨by decide, by decide, pd_L_abs⟩ ⟨Nat.le_of_ble_eq_true rfl, Nat.le_of_ble_eq_true rfl⟩ ⟨Nat.zero_le _, Nat.zero_le _⟩ (Nat.le_of_ble_eq_true rfl) dL_far_41 rfl (fun v9 h41 hq9 => ?_)
  obtain ⟨r41, rfl, hw⟩ := hq9
  obtain ⟨hp9, hw⟩ := hw
  refine aw_imul (pc := 44) C dL_far_44 hp9 ?_
  obtain ⟨hp9, hw⟩ := hw
  refine aw_iadd (pc := 45) C dL_far_45 hp9 ?_
  exact aw_iret (pc := 46) C hr dL_far_46 ⟨Nat.le_of_ble_eq_true rfl, Nat.le_of_ble_eq_true rfl⟩ ⟨_, rfl, hw⟩
theorem dL_common_0 : decode cL_common 0 = .ok (.bipush 8, 2) := by decide +kernel
theorem dL_common_2 : decode cL_common 2 = .ok (.newarray .int, 2) := by decide +kernel
theorem dL_common_4 : decode cL_common 4 = .ok (.astore 4, 2) := by decide +kernel
theorem dL_common_6 : decode cL_common 6 = .ok (.bipush 8, 2) := by decide +kernel
theorem dL_common_8 : decode cL_common 8 = .ok (.newarray .int, 2) := by decide +kernel
theorem dL_common_10 : decode cL_common 10 = .ok (.astore 5, 2) := by decide +kernel
theorem dL_common_12 : decode cL_common 12 = .ok (.iconst 0, 1) := by decide +kernel
theorem dL_common_13 : decode cL_common 13 = .ok (.istore 6, 2) := by decide +kernel
theorem dL_common_15 : decode cL_common 15 = .ok (.iconst 1, 1) := by decide +kernel
theorem dL_common_16 : decode cL_common 16 = .ok (.istore 7, 2) := by decide +kernel
theorem dL_common_18 : decode cL_common 18 = .ok (.iload 7, 2) := by decide +kernel
theorem dL_common_20 : decode cL_common 20 = .ok (.iconst 1, 1) := by decide +kernel
theorem dL_common_21 : decode cL_common 21 = .ok (.aload_n 2, 1) := by decide +kernel
theorem dL_common_22 : decode cL_common 22 = .ok (.iconst 0, 1) := by decide +kernel
theorem dL_common_23 : decode cL_common 23 = .ok (.iaload, 1) := by decide +kernel
theorem dL_common_24 : decode cL_common 24 = .ok (.ishl, 1) := by decide +kernel
theorem dL_common_25 : decode cL_common 25 = .ok (.if_icmp .ge 268, 3) := by decide +kernel
theorem dL_common_28 : decode cL_common 28 = .ok (.iconst 0, 1) := by decide +kernel
theorem dL_common_29 : decode cL_common 29 = .ok (.istore 8, 2) := by decide +kernel
theorem dL_common_31 : decode cL_common 31 = .ok (.iconst 0, 1) := by decide +kernel
theorem dL_common_32 : decode cL_common 32 = .ok (.istore 9, 2) := by decide +kernel
theorem dL_common_34 : decode cL_common 34 = .ok (.iconst 1, 1) := by decide +kernel
theorem dL_common_35 : decode cL_common 35 = .ok (.istore 10, 2) := by decide +kernel
theorem dL_common_37 : decode cL_common 37 = .ok (.iconst 0, 1) := by decide +kernel
theorem dL_common_38 : decode cL_common 38 = .ok (.istore 11, 2) := by decide +kernel
theorem dL_common_40 : decode cL_common 40 = .ok (.iload 11, 2) := by decide +kernel
theorem dL_common_42 : decode cL_common 42 = .ok (.aload_n 2, 1) := by decide +kernel
theorem dL_common_43 : decode cL_common 43 = .ok (.iconst 0, 1) := by decide +kernel
theorem dL_common_44 : decode cL_common 44 = .ok (.iaload, 1) := by decide +kernel
theorem dL_common_45 : decode cL_common 45 = .ok (.if_icmp .ge 106, 3) := by decide +kernel
theorem dL_common_48 : decode cL_common 48 = .ok (.iload 10, 2) := by decide +kernel
theorem dL_common_50 : decode cL_common 50 = .ok (.ifCond .eq 101, 3) := by decide +kernel
theorem dL_common_53 : decode cL_common 53 = .ok (.iload 7, 2) := by decide +kernel
theorem dL_common_55 : decode cL_common 55 = .ok (.iload 11, 2) := by decide +kernel
theorem dL_common_57 : decode cL_common 57 = .ok (.ishr, 1) := by decide +kernel
theorem dL_common_58 : decode cL_common 58 = .ok (.iconst 1, 1) := by decide +kernel
theorem dL_common_59 : decode cL_common 59 = .ok (.iand, 1) := by decide +kernel
theorem dL_common_60 : decode cL_common 60 = .ok (.ifCond .ne 6, 3) := by decide +kernel
theorem dL_common_63 : decode cL_common 63 = .ok (.goto 82, 3) := by decide +kernel
theorem dL_common_66 : decode cL_common 66 = .ok (.iload 9, 2) := by decide +kernel
theorem dL_common_68 : decode cL_common 68 = .ok (.aload_n 2, 1) := by decide +kernel
theorem dL_common_69 : decode cL_common 69 = .ok (.iconst 1, 1) := by decide +kernel
theorem dL_common_70 : decode cL_common 70 = .ok (.iaload, 1) := by decide +kernel
theorem dL_common_71 : decode cL_common 71 = .ok (.if_icmp .ge 28, 3) := by decide +kernel
theorem dL_common_74 : decode cL_common 74 = .ok (.aload_n 1, 1) := by decide +kernel
theorem dL_common_75 : decode cL_common 75 = .ok (.iconst 2, 1) := by decide +kernel
theorem dL_common_76 : decode cL_common 76 = .ok (.iload 9, 2) := by decide +kernel
theorem dL_common_78 : decode cL_common 78 = .ok (.imul, 1) := by decide +kernel
theorem dL_common_79 : decode cL_common 79 = .ok (.iconst 1, 1) := by decide +kernel
theorem dL_common_80 : decode cL_common 80 = .ok (.iadd, 1) := by decide +kernel
theorem dL_common_81 : decode cL_common 81 = .ok (.iaload, 1) := by decide +kernel
theorem dL_common_82 : decode cL_common 82 = .ok (.aload_n 0, 1) := by decide +kernel
theorem dL_common_83 : decode cL_common 83 = .ok (.iconst 2, 1) := by decide +kernel
theorem dL_common_84 : decode cL_common 84 = .ok (.iload 11, 2) := by decide +kernel
theorem dL_common_86 : decode cL_common 86 = .ok (.imul, 1) := by decide +kernel
theorem dL_common_87 : decode cL_common 87 = .ok (.iconst 1, 1) := by decide +kernel
theorem dL_common_88 : decode cL_common 88 = .ok (.iadd, 1) := by decide +kernel
theorem dL_common_89 : decode cL_common 89 = .ok (.iaload, 1) := by decide +kernel
theorem dL_common_90 : decode cL_common 90 = .ok (.if_icmp .eq 9, 3) := by decide +kernel
theorem dL_common_93 : decode cL_common 93 = .ok (.iinc 9 1, 3) := by decide +kernel
theorem dL_common_96 : decode cL_common 96 = .ok (.goto (-30), 3) := by decide +kernel
theorem dL_common_99 : decode cL_common 99 = .ok (.iload 9, 2) := by decide +kernel
theorem dL_common_101 : decode cL_common 101 = .ok (.aload_n 2, 1) := by decide +kernel
theorem dL_common_102 : decode cL_common 102 = .ok (.iconst 1, 1) := by decide +kernel
theorem dL_common_103 : decode cL_common 103 = .ok (.iaload, 1) := by decide +kernel
theorem dL_common_104 : decode cL_common 104 = .ok (.if_icmp .ge 7, 3) := by decide +kernel
theorem dL_common_107 : decode cL_common 107 = .ok (.iconst 1, 1) := by decide +kernel
theorem dL_common_108 : decode cL_common 108 = .ok (.goto 4, 3) := by decide +kernel
theorem dL_common_111 : decode cL_common 111 = .ok (.iconst 0, 1) := by decide +kernel
theorem dL_common_112 : decode cL_common 112 = .ok (.istore 10, 2) := by decide +kernel
theorem dL_common_114 : decode cL_common 114 = .ok (.aload 5, 2) := by decide +kernel
theorem dL_common_116 : decode cL_common 116 = .ok (.iload 8, 2) := by decide +kernel
theorem dL_common_118 : decode cL_common 118 = .ok (.bipush 100, 2) := by decide +kernel
theorem dL_common_120 : decode cL_common 120 = .ok (.iload 11, 2) := by decide +kernel
theorem dL_common_122 : decode cL_common 122 = .ok (.imul, 1) := by decide +kernel
theorem dL_common_123 : decode cL_common 123 = .ok (.iload 9, 2) := by decide +kernel
theorem dL_common_125 : decode cL_common 125 = .ok (.iadd, 1) := by decide +kernel
theorem dL_common_126 : decode cL_common 126 = .ok (.iastore, 1) := by decide +kernel
theorem dL_common_127 : decode cL_common 127 = .ok (.iload 8, 2) := by decide +kernel
theorem dL_common_129 : decode cL_common 129 = .ok (.iload 10, 2) := by decide +kernel
theorem dL_common_131 : decode cL_common 131 = .ok (.ifCond .eq 7, 3) := by decide +kernel
theorem dL_common_134 : decode cL_common 134 = .ok (.iconst 1, 1) := by decide +kernel
theorem dL_common_135 : decode cL_common 135 = .ok (.goto 4, 3) := by decide +kernel
theorem dL_common_138 : decode cL_common 138 = .ok (.iconst 0, 1) := by decide +kernel
theorem dL_common_139 : decode cL_common 139 = .ok (.iadd, 1) := by decide +kernel
theorem dL_common_140 : decode cL_common 140 = .ok (.istore 8, 2) := by decide +kernel
theorem dL_common_142 : decode cL_common 142 = .ok (.iinc 9 1, 3) := by decide +kernel
theorem dL_common_145 : decode cL_common 145 = .ok (.iinc 11 1, 3) := by decide +kernel
theorem dL_common_148 : decode cL_common 148 = .ok (.goto (-108), 3) := by decide +kernel
theorem dL_common_151 : decode cL_common 151 = .ok (.iload 10, 2) := by decide +kernel
theorem dL_common_153 : decode cL_common 153 = .ok (.ifCond .eq 134, 3) := by decide +kernel
theorem dL_common_156 : decode cL_common 156 = .ok (.iload 8, 2) := by decide +kernel
theorem dL_common_158 : decode cL_common 158 = .ok (.iload 6, 2) := by decide +kernel
theorem dL_common_160 : decode cL_common 160 = .ok (.if_icmp .ge 6, 3) := by decide +kernel
theorem dL_common_163 : decode cL_common 163 = .ok (.goto 124, 3) := by decide +kernel
theorem dL_common_166 : decode cL_common 166 = .ok (.iload 8, 2) := by decide +kernel
theorem dL_common_168 : decode cL_common 168 = .ok (.iload 6, 2) := by decide +kernel
theorem dL_common_170 : decode cL_common 170 = .ok (.if_icmp .le 7, 3) := by decide +kernel
theorem dL_common_173 : decode cL_common 173 = .ok (.iconst 1, 1) := by decide +kernel
theorem dL_common_174 : decode cL_common 174 = .ok (.goto 4, 3) := by decide +kernel
theorem dL_common_177 : decode cL_common 177 = .ok (.iconst 0, 1) := by decide +kernel
theorem dL_common_178 : decode cL_common 178 = .ok (.istore 11, 2) := by decide +kernel
theorem dL_common_180 : decode cL_common 180 = .ok (.iconst 1, 1) := by decide +kernel
theorem dL_common_181 : decode cL_common 181 = .ok (.istore 12, 2) := by decide +kernel
theorem dL_common_183 : decode cL_common 183 = .ok (.iconst 0, 1) := by decide +kernel
theorem dL_common_184 : decode cL_common 184 = .ok (.istore 13, 2) := by decide +kernel
theorem dL_common_186 : decode cL_common 186 = .ok (.iload 13, 2) := by decide +kernel
theorem dL_common_188 : decode cL_common 188 = .ok (.iload 8, 2) := by decide +kernel
theorem dL_common_190 : decode cL_common 190 = .ok (.if_icmp .ge 59, 3) := by decide +kernel
theorem dL_common_193 : decode cL_common 193 = .ok (.iload 11, 2) := by decide +kernel
theorem dL_common_195 : decode cL_common 195 = .ok (.ifCond .ne 54, 3) := by decide +kernel
theorem dL_common_198 : decode cL_common 198 = .ok (.iload 12, 2) := by decide +kernel
theorem dL_common_200 : decode cL_common 200 = .ok (.ifCond .eq 49, 3) := by decide +kernel
theorem dL_common_203 : decode cL_common 203 = .ok (.aload 5, 2) := by decide +kernel
theorem dL_common_205 : decode cL_common 205 = .ok (.iload 13, 2) := by decide +kernel
theorem dL_common_207 : decode cL_common 207 = .ok (.iaload, 1) := by decide +kernel
theorem dL_common_208 : decode cL_common 208 = .ok (.aload 4, 2) := by decide +kernel
theorem dL_common_210 : decode cL_common 210 = .ok (.iload 13, 2) := by decide +kernel
theorem dL_common_212 : decode cL_common 212 = .ok (.iaload, 1) := by decide +kernel
theorem dL_common_213 : decode cL_common 213 = .ok (.if_icmp .ge 7, 3) := by decide +kernel
theorem dL_common_216 : decode cL_common 216 = .ok (.iconst 1, 1) := by decide +kernel
theorem dL_common_217 : decode cL_common 217 = .ok (.goto 4, 3) := by decide +kernel
theorem dL_common_220 : decode cL_common 220 = .ok (.iconst 0, 1) := by decide +kernel
theorem dL_common_221 : decode cL_common 221 = .ok (.istore 11, 2) := by decide +kernel
theorem dL_common_223 : decode cL_common 223 = .ok (.aload 5, 2) := by decide +kernel
theorem dL_common_225 : decode cL_common 225 = .ok (.iload 13, 2) := by decide +kernel
theorem dL_common_227 : decode cL_common 227 = .ok (.iaload, 1) := by decide +kernel
theorem dL_common_228 : decode cL_common 228 = .ok (.aload 4, 2) := by decide +kernel
theorem dL_common_230 : decode cL_common 230 = .ok (.iload 13, 2) := by decide +kernel
theorem dL_common_232 : decode cL_common 232 = .ok (.iaload, 1) := by decide +kernel
theorem dL_common_233 : decode cL_common 233 = .ok (.if_icmp .ne 7, 3) := by decide +kernel
theorem dL_common_236 : decode cL_common 236 = .ok (.iconst 1, 1) := by decide +kernel
theorem dL_common_237 : decode cL_common 237 = .ok (.goto 4, 3) := by decide +kernel
theorem dL_common_240 : decode cL_common 240 = .ok (.iconst 0, 1) := by decide +kernel
theorem dL_common_241 : decode cL_common 241 = .ok (.istore 12, 2) := by decide +kernel
theorem dL_common_243 : decode cL_common 243 = .ok (.iinc 13 1, 3) := by decide +kernel
theorem dL_common_246 : decode cL_common 246 = .ok (.goto (-60), 3) := by decide +kernel
theorem dL_common_249 : decode cL_common 249 = .ok (.iload 11, 2) := by decide +kernel
theorem dL_common_251 : decode cL_common 251 = .ok (.ifCond .ne 6, 3) := by decide +kernel
theorem dL_common_254 : decode cL_common 254 = .ok (.goto 33, 3) := by decide +kernel
theorem dL_common_257 : decode cL_common 257 = .ok (.iload 8, 2) := by decide +kernel
theorem dL_common_259 : decode cL_common 259 = .ok (.istore 6, 2) := by decide +kernel
theorem dL_common_261 : decode cL_common 261 = .ok (.iconst 0, 1) := by decide +kernel
theorem dL_common_262 : decode cL_common 262 = .ok (.istore 13, 2) := by decide +kernel
theorem dL_common_264 : decode cL_common 264 = .ok (.iload 13, 2) := by decide +kernel
theorem dL_common_266 : decode cL_common 266 = .ok (.iload 8, 2) := by decide +kernel
theorem dL_common_268 : decode cL_common 268 = .ok (.if_icmp .ge 19, 3) := by decide +kernel
theorem dL_common_271 : decode cL_common 271 = .ok (.aload 4, 2) := by decide +kernel
theorem dL_common_273 : decode cL_common 273 = .ok (.iload 13, 2) := by decide +kernel
theorem dL_common_275 : decode cL_common 275 = .ok (.aload 5, 2) := by decide +kernel
theorem dL_common_277 : decode cL_common 277 = .ok (.iload 13, 2) := by decide +kernel
theorem dL_common_279 : decode cL_common 279 = .ok (.iaload, 1) := by decide +kernel
theorem dL_common_280 : decode cL_common 280 = .ok (.iastore, 1) := by decide +kernel
theorem dL_common_281 : decode cL_common 281 = .ok (.iinc 13 1, 3) := by decide +kernel
theorem dL_common_284 : decode cL_common 284 = .ok (.goto (-20), 3) := by decide +kernel
theorem dL_common_287 : decode cL_common 287 = .ok (.iinc 7 1, 3) := by decide +kernel
theorem dL_common_290 : decode cL_common 290 = .ok (.goto (-272), 3) := by decide +kernel
theorem dL_common_293 : decode cL_common 293 = .ok (.iconst 0, 1) := by decide +kernel
theorem dL_common_294 : decode cL_common 294 = .ok (.istore 7, 2) := by decide +kernel
theorem dL_common_296 : decode cL_common 296 = .ok (.iload 7, 2) := by decide +kernel
theorem dL_common_298 : decode cL_common 298 = .ok (.iload 6, 2) := by decide +kernel
theorem dL_common_300 : decode cL_common 300 = .ok (.if_icmp .ge 44, 3) := by decide +kernel
theorem dL_common_303 : decode cL_common 303 = .ok (.aload_n 3, 1) := by decide +kernel
theorem dL_common_304 : decode cL_common 304 = .ok (.iconst 2, 1) := by decide +kernel
theorem dL_common_305 : decode cL_common 305 = .ok (.aload 4, 2) := by decide +kernel
theorem dL_common_307 : decode cL_common 307 = .ok (.iload 7, 2) := by decide +kernel
theorem dL_common_309 : decode cL_common 309 = .ok (.iaload, 1) := by decide +kernel
theorem dL_common_310 : decode cL_common 310 = .ok (.bipush 100, 2) := by decide +kernel
theorem dL_common_312 : decode cL_common 312 = .ok (.idiv, 1) := by decide +kernel
theorem dL_common_313 : decode cL_common 313 = .ok (.imul, 1) := by decide +kernel
theorem dL_common_314 : decode cL_common 314 = .ok (.aload 4, 2) := by decide +kernel
theorem dL_common_316 : decode cL_common 316 = .ok (.iload 7, 2) := by decide +kernel
theorem dL_common_318 : decode cL_common 318 = .ok (.iaload, 1) := by decide +kernel
theorem dL_common_319 : decode cL_common 319 = .ok (.bipush 100, 2) := by decide +kernel
theorem dL_common_321 : decode cL_common 321 = .ok (.irem, 1) := by decide +kernel
theorem dL_common_322 : decode cL_common 322 = .ok (.iastore, 1) := by decide +kernel
theorem dL_common_323 : decode cL_common 323 = .ok (.aload_n 3, 1) := by decide +kernel
theorem dL_common_324 : decode cL_common 324 = .ok (.iconst 2, 1) := by decide +kernel
theorem dL_common_325 : decode cL_common 325 = .ok (.aload 4, 2) := by decide +kernel
theorem dL_common_327 : decode cL_common 327 = .ok (.iload 7, 2) := by decide +kernel
theorem dL_common_329 : decode cL_common 329 = .ok (.iaload, 1) := by decide +kernel
theorem dL_common_330 : decode cL_common 330 = .ok (.bipush 100, 2) := by decide +kernel
theorem dL_common_332 : decode cL_common 332 = .ok (.idiv, 1) := by decide +kernel
theorem dL_common_333 : decode cL_common 333 = .ok (.imul, 1) := by decide +kernel
theorem dL_common_334 : decode cL_common 334 = .ok (.iconst 1, 1) := by decide +kernel
theorem dL_common_335 : decode cL_common 335 = .ok (.iadd, 1) := by decide +kernel
theorem dL_common_336 : decode cL_common 336 = .ok (.iconst 1, 1) := by decide +kernel
theorem dL_common_337 : decode cL_common 337 = .ok (.iastore, 1) := by decide +kernel
theorem dL_common_338 : decode cL_common 338 = .ok (.iinc 7 1, 3) := by decide +kernel
theorem dL_common_341 : decode cL_common 341 = .ok (.goto (-45), 3) := by decide +kernel
theorem dL_common_344 : decode cL_common 344 = .ok (.return_, 1) := by decide +kernel
theorem pd_L_common : (parseMethodDescriptor yL_common.desc).map (fun d => d.parameters.length) = some 4 := by decide +kernel
def w_L_common (zz : Nat → Nat) (a0 : Nat) (a1 : Nat) (a2 : Nat) (a3 : Nat) (h : AH) (Q : AH → Prop) : Prop := ∀ h2 : AH, h2 = nAI h 8 → ∀ x4_4 : Nat, x4_4 = (hn h) → ∀ h8 : AH, h8 = nAI h2 8 → ∀ x5_10 : Nat, x5_10 = (hn h2) → ∃ I_18 : Nat → Int → Int → AH → Prop, (∃ n, n ≤ 1000 ∧ I_18 n (0 : Int) (1 : Int) h8) ∧ ∀ (n_18 : Nat) (x6_18 : Int) (x7_18 : Int) (h_18 : AH), I_18 n_18 x6_18 x7_18 h_18 → (okI h_18 a2 (0 : Int) ∧ (0 ≤ (haI h_18 a2 (0 : Int)) ∧ (haI h_18 a2 (0 : Int)) ≤ 8) ∧ ((((2 : Int) ^ ((haI h_18 a2 (0 : Int))).toNat) ≤ x7_18) → ∃ I_296 : Nat → Int → AH → Prop, (∃ n, n ≤ 1000 ∧ I_296 n (0 : Int) h_18) ∧ ∀ (n_296 : Nat) (x7_296 : Int) (h_296 : AH), I_296 n_296 x7_296 h_296 → (((x6_18 ≤ x7_296) → Q h_296) ∧ ((¬ (x6_18 ≤ x7_296)) → okI h_296 x4_4 x7_296 ∧ (0 ≤ (haI h_296 x4_4 x7_296) ∧ 0 < (100 : Int)) ∧ inR ((2 : Int) * ((haI h_296 x4_4 x7_296) / (100 : Int))) ∧ okI h_296 x4_4 x7_296 ∧ (0 ≤ (haI h_296 x4_4 x7_296) ∧ 0 < (100 : Int)) ∧ okW h_296 a3 ((2 : Int) * ((haI h_296 x4_4 x7_296) / (100 : Int))) ∧ ∀ h322 : AH, h322 = saI h_296 a3 (u1 (haI h_296 a3) ((2 : Int) * ((haI h_296 x4_4 x7_296) / (100 : Int))) ((haI h_296 x4_4 x7_296) % (100 : Int))) → okI h322 x4_4 x7_296 ∧ (0 ≤ (haI h322 x4_4 x7_296) ∧ 0 < (100 : Int)) ∧ inR ((2 : Int) * ((haI h322 x4_4 x7_296) / (100 : Int))) ∧ inR (((2 : Int) * ((haI h322 x4_4 x7_296) / (100 : Int))) + (1 : Int)) ∧ okW h322 a3 (((2 : Int) * ((haI h322 x4_4 x7_296) / (100 : Int))) + (1 : Int)) ∧ ∀ h337 : AH, h337 = saI h322 a3 (u1 (haI h322 a3) (((2 : Int) * ((haI h322 x4_4 x7_296) / (100 : Int))) + (1 : Int)) (1 : Int)) → inR (x7_296 + 1) ∧ ∀ x7_338 : Int, x7_338 = (x7_296 + 1) → ∃ m, m < n_296 ∧ I_296 m x7_338 h337))) ∧ ((¬ (((2 : Int) ^ ((haI h_18 a2 (0 : Int))).toNat) ≤ x7_18)) → ∃ I_40 : Nat → Int → Int → Int → Int → AH → Prop, (∃ n, n ≤ 1000 ∧ I_40 n (0 : Int) (0 : Int) (1 : Int) (0 : Int) h_18) ∧ ∀ (n_40 : Nat) (x8_40 : Int) (x9_40 : Int) (x10_40 : Int) (x11_40 : Int) (h_40 : AH), I_40 n_40 x8_40 x9_40 x10_40 x11_40 h_40 → (okI h_40 a2 (0 : Int) ∧ jn (fun  (h_151 : AH) => jn (fun (x6_287 : Int) (h_287 : AH) => inR (x7_18 + 1) ∧ ∀ x7_287 : Int, x7_287 = (x7_18 + 1) → ∃ m, m < n_18 ∧ I_18 m x6_287 x7_287 h_287) (fun k_287 : Int → AH → Prop => ((x10_40 = 0) → k_287 x6_18 h_151) ∧ ((¬ (x10_40 = 0)) → ((x6_18 ≤ x8_40) → jn (fun (t0_178 : Int) (h_178 : AH) => ∃ I_186 : Nat → Int → Int → Int → AH → Prop, (∃ n, n ≤ 1000 ∧ I_186 n t0_178 (1 : Int) (0 : Int) h_178) ∧ ∀ (n_186 : Nat) (x11_186 : Int) (x12_186 : Int) (x13_186 : Int) (h_186 : AH), I_186 n_186 x11_186 x12_186 x13_186 h_186 → (jn (fun  (h_249 : AH) => ((¬ x11_186 = 0) → ∃ I_264 : Nat → Int → AH → Prop, (∃ n, n ≤ 1000 ∧ I_264 n (0 : Int) h_249) ∧ ∀ (n_264 : Nat) (x13_264 : Int) (h_264 : AH), I_264 n_264 x13_264 h_264 → (((x8_40 ≤ x13_264) → k_287 x8_40 h_264) ∧ ((¬ (x8_40 ≤ x13_264)) → okI h_264 x5_10 x13_264 ∧ okW h_264 x4_4 x13_264 ∧ ∀ h280 : AH, h280 = saI h_264 x4_4 (u1 (haI h_264 x4_4) x13_264 (haI h_264 x5_10 x13_264)) → inR (x13_264 + 1) ∧ ∀ x13_281 : Int, x13_281 = (x13_264 + 1) → ∃ m, m < n_264 ∧ I_264 m x13_281 h280))) ∧ ((x11_186 = 0) → k_287 x6_18 h_249)) (fun k_249 : AH → Prop => ((x8_40 ≤ x13_186) → k_249  h_186) ∧ ((¬ (x8_40 ≤ x13_186)) → ((¬ x11_186 = 0) → k_249  h_186) ∧ ((x11_186 = 0) → ((x12_186 = 0) → k_249  h_186) ∧ ((¬ (x12_186 = 0)) → okI h_186 x5_10 x13_186 ∧ okI h_186 x4_4 x13_186 ∧ jn (fun (t0_221 : Int) (h_221 : AH) => okI h_221 x5_10 x13_186 ∧ okI h_221 x4_4 x13_186 ∧ jn (fun (t0_241 : Int) (h_241 : AH) => inR (x13_186 + 1) ∧ ∀ x13_243 : Int, x13_243 = (x13_186 + 1) → ∃ m, m < n_186 ∧ I_186 m t0_221 t0_241 x13_243 h_241) (fun k_241 : Int → AH → Prop => ((¬ (haI h_221 x5_10 x13_186) = (haI h_221 x4_4 x13_186)) → k_241 (0 : Int) h_221) ∧ (((haI h_221 x5_10 x13_186) = (haI h_221 x4_4 x13_186)) → k_241 (1 : Int) h_221))) (fun k_221 : Int → AH → Prop => (((haI h_186 x4_4 x13_186) ≤ (haI h_186 x5_10 x13_186)) → k_221 (0 : Int) h_186) ∧ ((¬ ((haI h_186 x4_4 x13_186) ≤ (haI h_186 x5_10 x13_186))) → k_221 (1 : Int) h_186)))))))) (fun k_178 : Int → AH → Prop => ((x8_40 ≤ x6_18) → k_178 (0 : Int) h_151) ∧ ((¬ (x8_40 ≤ x6_18)) → k_178 (1 : Int) h_151))) ∧ ((¬ (x6_18 ≤ x8_40)) → k_287 x6_18 h_151)))) (fun k_151 : AH → Prop => (((haI h_40 a2 (0 : Int)) ≤ x11_40) → k_151  h_40) ∧ ((¬ ((haI h_40 a2 (0 : Int)) ≤ x11_40)) → ((x10_40 = 0) → k_151  h_40) ∧ ((¬ (x10_40 = 0)) → (0 ≤ x11_40 ∧ x11_40 < 32) ∧ jn (fun (x8_145 : Int) (x9_145 : Int) (x10_145 : Int) (h_145 : AH) => inR (x11_40 + 1) ∧ ∀ x11_145 : Int, x11_145 = (x11_40 + 1) → ∃ m, m < n_40 ∧ I_40 m x8_145 x9_145 x10_145 x11_145 h_145) (fun k_145 : Int → Int → Int → AH → Prop => ((¬ ((x7_18 / (2 : Int) ^ (x11_40).toNat) % 2) = 0) → ∃ I_66 : Nat → Int → AH → Prop, (∃ n, n ≤ 1000 ∧ I_66 n x9_40 h_40) ∧ ∀ (n_66 : Nat) (x9_66 : Int) (h_66 : AH), I_66 n_66 x9_66 h_66 → (okI h_66 a2 (1 : Int) ∧ jn (fun  (h_99 : AH) => okI h_99 a2 (1 : Int) ∧ jn (fun (t0_112 : Int) (h_112 : AH) => inR ((100 : Int) * x11_40) ∧ inR (((100 : Int) * x11_40) + x9_66) ∧ okW h_112 x5_10 x8_40 ∧ ∀ h126 : AH, h126 = saI h_112 x5_10 (u1 (haI h_112 x5_10) x8_40 (((100 : Int) * x11_40) + x9_66)) → jn (fun (t1_139 : Int) (h_139 : AH) => inR (x8_40 + t1_139) ∧ ∀ x8_140 : Int, x8_140 = (x8_40 + t1_139) → inR (x9_66 + 1) ∧ ∀ x9_142 : Int, x9_142 = (x9_66 + 1) → k_145 x8_140 x9_142 t0_112 h_139) (fun k_139 : Int → AH → Prop => ((t0_112 = 0) → k_139 (0 : Int) h126) ∧ ((¬ (t0_112 = 0)) → k_139 (1 : Int) h126))) (fun k_112 : Int → AH → Prop => (((haI h_99 a2 (1 : Int)) ≤ x9_66) → k_112 (0 : Int) h_99) ∧ ((¬ ((haI h_99 a2 (1 : Int)) ≤ x9_66)) → k_112 (1 : Int) h_99))) (fun k_99 : AH → Prop => (((haI h_66 a2 (1 : Int)) ≤ x9_66) → k_99  h_66) ∧ ((¬ ((haI h_66 a2 (1 : Int)) ≤ x9_66)) → inR ((2 : Int) * x9_66) ∧ inR (((2 : Int) * x9_66) + (1 : Int)) ∧ okI h_66 a1 (((2 : Int) * x9_66) + (1 : Int)) ∧ inR ((2 : Int) * x11_40) ∧ inR (((2 : Int) * x11_40) + (1 : Int)) ∧ okI h_66 a0 (((2 : Int) * x11_40) + (1 : Int)) ∧ (((haI h_66 a1 (((2 : Int) * x9_66) + (1 : Int))) = (haI h_66 a0 (((2 : Int) * x11_40) + (1 : Int)))) → k_99  h_66) ∧ ((¬ ((haI h_66 a1 (((2 : Int) * x9_66) + (1 : Int))) = (haI h_66 a0 (((2 : Int) * x11_40) + (1 : Int))))) → inR (x9_66 + 1) ∧ ∀ x9_93 : Int, x9_93 = (x9_66 + 1) → ∃ m, m < n_66 ∧ I_66 m x9_93 h_66))))) ∧ ((((x7_18 / (2 : Int) ^ (x11_40).toNat) % 2) = 0) → k_145 x8_40 x9_40 x10_40 h_40))))))))
set_option maxRecDepth 100000 in
set_option maxHeartbeats 4000000 in
theorem met_L_common (G : GG) (l : Launch) : ∀ (As : List Value) (a0 : Nat) (a1 : Nat) (a2 : Nat) (a3 : Nat) (h : AH) (Q : AH → Prop), As.map ab = List.map some ([vR a0, vR a1, vR a2, vR a3] : List AV) → w_L_common G.2.2 a0 a1 a2 a3 h Q → Met l yL_common (.code yL_common cL_common 14 none :: xTb) ({ frames := 0, cells := 2, slots := 16, locals := 0 } : Room) (PcA G As h) (QG G (oV Q)) 2 16 (frA G) := by
  intro As a0 a1 a2 a3 h Q hA hw
  refine met_of hA (by decide) (Nat.le_of_ble_eq_true rfl) (fun p e s m args below meth c C hml hr hnm => ?_)
  unfold w_L_common at hw
  refine aw_bipush (pc := 0) C dL_common_0 (i := (8 : Int)) (by decide) ?_
  refine aw_newI (pc := 2) (n := 8) C tw57 dL_common_2 (Nat.le_of_ble_eq_true rfl) (by show _ ≤ (2 : Nat); omega) (by show _ ≤ (16 : Nat); omega) (aw_nmH (fun h2 e9 => ?_))
  have hw := hw h2 e9
  refine aw_nmR (fun x4_4 e9 => ?_)
  have hw := hw x4_4 e9
  refine aw_astore (pc := 4) C dL_common_4 (by rw [hml]; decide) ?_
  refine aw_bipush (pc := 6) C dL_common_6 (i := (8 : Int)) (by decide) ?_
  refine aw_newI (pc := 8) (n := 8) C tw57 dL_common_8 (Nat.le_of_ble_eq_true rfl) (by show _ ≤ (2 : Nat); omega) (by show _ ≤ (16 : Nat); omega) (aw_nmH (fun h8 e9 => ?_))
  have hw := hw h8 e9
  refine aw_nmR (fun x5_10 e9 => ?_)
  have hw := hw x5_10 e9
  refine aw_astore (pc := 10) C dL_common_10 (by rw [hml]; decide) ?_
  refine aw_iconst (pc := 12) C dL_common_12 (i := (0 : Int)) (by decide) ?_
  refine aw_istore (pc := 13) C dL_common_13 (by rw [hml]; decide) ?_
  refine aw_iconst (pc := 15) C dL_common_15 (i := (1 : Int)) (by decide) ?_
  refine aw_istore (pc := 16) C dL_common_16 (by rw [hml]; decide) ?_
  obtain ⟨I_18, ⟨n9, hn9, hi9⟩, hst9⟩ := hw
  have L_18 : ∀ (n_18 : Nat) (x6_18 : Int) (x7_18 : Int) (h_18 : AH) (bc9 bs9 : Nat), I_18 n_18 x6_18 x7_18 h_18 → bc9 + 0 * n_18 + 0 ≤ 2 → bs9 + 0 * n_18 + 0 ≤ 16 → AW G p l e ({ frames := 0, cells := 2, slots := 16, locals := 0 } : Room) s m args below meth c bc9 bs9 (MQ below (QG G (oV Q)) args s 2 16 (frA G)) 18 (eOf [(0, vR a0), (1, vR a1), (2, vR a2), (3, vR a3), (4, vR x4_4), (5, vR x5_10), (6, vI x6_18), (7, vI x7_18)]) [] h_18 := by
    intro n_18
    induction n_18 using Nat.strongRecOn with
    | _ n_18 ih_18 =>
    intro x6_18 x7_18 h_18 bc9 bs9 hi9 hb9 hs9
    have hw := hst9 n_18 x6_18 x7_18 h_18 hi9
    refine aw_iload (pc := 18) C dL_common_18 rfl ?_
    refine aw_iconst (pc := 20) C dL_common_20 (i := (1 : Int)) (by decide) ?_
    refine aw_aload_n (pc := 21) C dL_common_21 rfl rfl ?_
    refine aw_iconst (pc := 22) C dL_common_22 (i := (0 : Int)) (by decide) ?_
    obtain ⟨⟨k9, hp9⟩, hw⟩ := hw
    refine aw_iald (pc := 23) C dL_common_23 hp9 ?_
    obtain ⟨hp9, hw⟩ := hw
    refine aw_ishl1 (pc := 24) C dL_common_24 hp9 ?_
    refine aw_icmp_ge (pc := 25) (tgt := 293) C dL_common_25 (by decide) (fun hc9 => ?_) (fun hc9 => ?_)
    · have hw := hw.1 hc9
      refine aw_iconst (pc := 293) C dL_common_293 (i := (0 : Int)) (by decide) ?_
      refine aw_istore (pc := 294) C dL_common_294 (by rw [hml]; decide) ?_
      obtain ⟨I_296, ⟨n9, hn9, hi9⟩, hst9⟩ := hw
      have L_296 : ∀ (n_296 : Nat) (x7_296 : Int) (h_296 : AH) (bc9 bs9 : Nat), I_296 n_296 x7_296 h_296 → bc9 + 0 * n_296 + 0 ≤ 2 → bs9 + 0 * n_296 + 0 ≤ 16 → AW G p l e ({ frames := 0, cells := 2, slots := 16, locals := 0 } : Room) s m args below meth c bc9 bs9 (MQ below (QG G (oV Q)) args s 2 16 (frA G)) 296 (eOf [(3, vR a3), (4, vR x4_4), (6, vI x6_18), (7, vI x7_296)]) [] h_296 := by
        intro n_296
        induction n_296 using Nat.strongRecOn with
        | _ n_296 ih_296 =>
        intro x7_296 h_296 bc9 bs9 hi9 hb9 hs9
        have hw := hst9 n_296 x7_296 h_296 hi9
        refine aw_iload (pc := 296) C dL_common_296 rfl ?_
        refine aw_iload (pc := 298) C dL_common_298 rfl ?_
        refine aw_icmp_ge (pc := 300) (tgt := 344) C dL_common_300 (by decide) (fun hc9 => ?_) (fun hc9 => ?_)
        · have hw := hw.1 hc9
          exact aw_vret (pc := 344) C hr dL_common_344 ⟨by omega, by omega⟩ ⟨rfl, hw⟩
        · have hw := hw.2 hc9
          refine aw_aload_n (pc := 303) C dL_common_303 rfl rfl ?_
          refine aw_iconst (pc := 304) C dL_common_304 (i := (2 : Int)) (by decide) ?_
          refine aw_aload (pc := 305) C dL_common_305 rfl ?_
          refine aw_iload (pc := 307) C dL_common_307 rfl ?_
          obtain ⟨⟨k9, hp9⟩, hw⟩ := hw
          refine aw_iald (pc := 309) C dL_common_309 hp9 ?_
          refine aw_bipush (pc := 310) C dL_common_310 (i := (100 : Int)) (by decide) ?_
          obtain ⟨hp9, hw⟩ := hw
          refine aw_idiv (pc := 312) C dL_common_312 hp9 ?_
          obtain ⟨hp9, hw⟩ := hw
          refine aw_imul (pc := 313) C dL_common_313 hp9 ?_
          refine aw_aload (pc := 314) C dL_common_314 rfl ?_
          refine aw_iload (pc := 316) C dL_common_316 rfl ?_
          obtain ⟨⟨k9, hp9⟩, hw⟩ := hw
          refine aw_iald (pc := 318) C dL_common_318 hp9 ?_
          refine aw_bipush (pc := 319) C dL_common_319 (i := (100 : Int)) (by decide) ?_
          obtain ⟨hp9, hw⟩ := hw
          refine aw_irem (pc := 321) C dL_common_321 hp9 ?_
          obtain ⟨⟨k9, hp9⟩, hw⟩ := hw
          refine aw_iast (pc := 322) C dL_common_322 hp9 (aw_nmH (fun h322 e9 => ?_))
          have hw := hw h322 e9
          refine aw_aload_n (pc := 323) C dL_common_323 rfl rfl ?_
          refine aw_iconst (pc := 324) C dL_common_324 (i := (2 : Int)) (by decide) ?_
          refine aw_aload (pc := 325) C dL_common_325 rfl ?_
          refine aw_iload (pc := 327) C dL_common_327 rfl ?_
          obtain ⟨⟨k9, hp9⟩, hw⟩ := hw
          refine aw_iald (pc := 329) C dL_common_329 hp9 ?_
          refine aw_bipush (pc := 330) C dL_common_330 (i := (100 : Int)) (by decide) ?_
          obtain ⟨hp9, hw⟩ := hw
          refine aw_idiv (pc := 332) C dL_common_332 hp9 ?_
          obtain ⟨hp9, hw⟩ := hw
          refine aw_imul (pc := 333) C dL_common_333 hp9 ?_
          refine aw_iconst (pc := 334) C dL_common_334 (i := (1 : Int)) (by decide) ?_
          obtain ⟨hp9, hw⟩ := hw
          refine aw_iadd (pc := 335) C dL_common_335 hp9 ?_
          refine aw_iconst (pc := 336) C dL_common_336 (i := (1 : Int)) (by decide) ?_
          obtain ⟨⟨k9, hp9⟩, hw⟩ := hw
          refine aw_iast (pc := 337) C dL_common_337 hp9 (aw_nmH (fun h337 e9 => ?_))
          have hw := hw h337 e9
          obtain ⟨hp9, hw⟩ := hw
          refine aw_iincN (pc := 338) C dL_common_338 (k := 1) (by decide) rfl (by rw [hml]; decide) hp9 (fun x7_338 e9 => ?_)
          have hw := hw x7_338 e9
          refine aw_goto (pc := 341) (tgt := 296) C dL_common_341 (by decide) ?_
          obtain ⟨m9, hm9, hw⟩ := hw
          refine aw_sub [(3, vR a3), (4, vR x4_4), (6, vI x6_18), (7, vI x7_338)] ⟨rfl, rfl, rfl, rfl, trivial⟩ ?_
          exact ih_296 m9 hm9 _ _ _ _ hw (by omega) (by omega)
      refine aw_sub [(3, vR a3), (4, vR x4_4), (6, vI x6_18), (7, vI (0 : Int))] ⟨rfl, rfl, rfl, rfl, trivial⟩ ?_
      exact L_296 n9 _ _ _ _ hi9 (by omega) (by omega)
    · have hw := hw.2 hc9
      refine aw_iconst (pc := 28) C dL_common_28 (i := (0 : Int)) (by decide) ?_
      refine aw_istore (pc := 29) C dL_common_29 (by rw [hml]; decide) ?_
      refine aw_iconst (pc := 31) C dL_common_31 (i := (0 : Int)) (by decide) ?_
      refine aw_istore (pc := 32) C dL_common_32 (by rw [hml]; decide) ?_
      refine aw_iconst (pc := 34) C dL_common_34 (i := (1 : Int)) (by decide) ?_
      refine aw_istore (pc := 35) C dL_common_35 (by rw [hml]; decide) ?_
      refine aw_iconst (pc := 37) C dL_common_37 (i := (0 : Int)) (by decide) ?_
      refine aw_istore (pc := 38) C dL_common_38 (by rw [hml]; decide) ?_
      obtain ⟨I_40, ⟨n9, hn9, hi9⟩, hst9⟩ := hw
      have L_40 : ∀ (n_40 : Nat) (x8_40 : Int) (x9_40 : Int) (x10_40 : Int) (x11_40 : Int) (h_40 : AH) (bc9 bs9 : Nat), I_40 n_40 x8_40 x9_40 x10_40 x11_40 h_40 → bc9 + 0 * n_40 + 0 ≤ 2 → bs9 + 0 * n_40 + 0 ≤ 16 → AW G p l e ({ frames := 0, cells := 2, slots := 16, locals := 0 } : Room) s m args below meth c bc9 bs9 (MQ below (QG G (oV Q)) args s 2 16 (frA G)) 40 (eOf [(0, vR a0), (1, vR a1), (2, vR a2), (3, vR a3), (4, vR x4_4), (5, vR x5_10), (6, vI x6_18), (7, vI x7_18), (8, vI x8_40), (9, vI x9_40), (10, vI x10_40), (11, vI x11_40)]) [] h_40 := by
        intro n_40
        induction n_40 using Nat.strongRecOn with
        | _ n_40 ih_40 =>
        intro x8_40 x9_40 x10_40 x11_40 h_40 bc9 bs9 hi9 hb9 hs9
        have hw := hst9 n_40 x8_40 x9_40 x10_40 x11_40 h_40 hi9
        refine aw_iload (pc := 40) C dL_common_40 rfl ?_
        refine aw_aload_n (pc := 42) C dL_common_42 rfl rfl ?_
        refine aw_iconst (pc := 43) C dL_common_43 (i := (0 : Int)) (by decide) ?_
        obtain ⟨⟨k9, hp9⟩, hw⟩ := hw
        refine aw_iald (pc := 44) C dL_common_44 hp9 ?_
        obtain ⟨k_151, hk_151, hw⟩ := jn_out hw
        have J_151 : ∀  (h_151 : AH) (bc8 bs8 : Nat), k_151  h_151 → bc8 ≤ 2 → bs8 ≤ 16 → AW G p l e ({ frames := 0, cells := 2, slots := 16, locals := 0 } : Room) s m args below meth c bc8 bs8 (MQ below (QG G (oV Q)) args s 2 16 (frA G)) 151 (eOf [(0, vR a0), (1, vR a1), (2, vR a2), (3, vR a3), (4, vR x4_4), (5, vR x5_10), (6, vI x6_18), (7, vI x7_18), (8, vI x8_40), (10, vI x10_40)]) [] h_151 := by
          intro  h_151 bc8 bs8 hw hb8 hs8
          rw [hk_151] at hw
          refine aw_iload (pc := 151) C dL_common_151 rfl ?_
          obtain ⟨k_287, hk_287, hw⟩ := jn_out hw
          have J_287 : ∀ (x6_287 : Int) (h_287 : AH) (bc8 bs8 : Nat), k_287 x6_287 h_287 → bc8 ≤ 2 → bs8 ≤ 16 → AW G p l e ({ frames := 0, cells := 2, slots := 16, locals := 0 } : Room) s m args below meth c bc8 bs8 (MQ below (QG G (oV Q)) args s 2 16 (frA G)) 287 (eOf [(0, vR a0), (1, vR a1), (2, vR a2), (3, vR a3), (4, vR x4_4), (5, vR x5_10), (6, vI x6_287), (7, vI x7_18)]) [] h_287 := by
            intro x6_287 h_287 bc8 bs8 hw hb8 hs8
            rw [hk_287] at hw
            obtain ⟨hp9, hw⟩ := hw
            refine aw_iincN (pc := 287) C dL_common_287 (k := 1) (by decide) rfl (by rw [hml]; decide) hp9 (fun x7_287 e9 => ?_)
            have hw := hw x7_287 e9
            refine aw_goto (pc := 290) (tgt := 18) C dL_common_290 (by decide) ?_
            obtain ⟨m9, hm9, hw⟩ := hw
            refine aw_sub [(0, vR a0), (1, vR a1), (2, vR a2), (3, vR a3), (4, vR x4_4), (5, vR x5_10), (6, vI x6_287), (7, vI x7_287)] ⟨rfl, rfl, rfl, rfl, rfl, rfl, rfl, rfl, trivial⟩ ?_
            exact ih_18 m9 hm9 _ _ _ _ _ hw (by omega) (by omega)
          refine aw_if_eq (pc := 153) (tgt := 287) C dL_common_153 (by decide) (fun hc9 => ?_) (fun hc9 => ?_)
          · have hw := hw.1 hc9
            refine aw_sub [(0, vR a0), (1, vR a1), (2, vR a2), (3, vR a3), (4, vR x4_4), (5, vR x5_10), (6, vI x6_18), (7, vI x7_18)] ⟨rfl, rfl, rfl, rfl, rfl, rfl, rfl, rfl, trivial⟩ ?_
            exact J_287 _ _ _ _ hw (by omega) (by omega)
          · have hw := hw.2 hc9
            refine aw_iload (pc := 156) C dL_common_156 rfl ?_
            refine aw_iload (pc := 158) C dL_common_158 rfl ?_
            refine aw_icmp_ge (pc := 160) (tgt := 166) C dL_common_160 (by decide) (fun hc9 => ?_) (fun hc9 => ?_)
            · have hw := hw.1 hc9
              refine aw_iload (pc := 166) C dL_common_166 rfl ?_
              refine aw_iload (pc := 168) C dL_common_168 rfl ?_
              obtain ⟨k_178, hk_178, hw⟩ := jn_out hw
              have J_178 : ∀ (t0_178 : Int) (h_178 : AH) (bc8 bs8 : Nat), k_178 t0_178 h_178 → bc8 ≤ 2 → bs8 ≤ 16 → AW G p l e ({ frames := 0, cells := 2, slots := 16, locals := 0 } : Room) s m args below meth c bc8 bs8 (MQ below (QG G (oV Q)) args s 2 16 (frA G)) 178 (eOf [(0, vR a0), (1, vR a1), (2, vR a2), (3, vR a3), (4, vR x4_4), (5, vR x5_10), (6, vI x6_18), (7, vI x7_18), (8, vI x8_40)]) [vI t0_178] h_178 := by
                intro t0_178 h_178 bc8 bs8 hw hb8 hs8
                rw [hk_178] at hw
                refine aw_istore (pc := 178) C dL_common_178 (by rw [hml]; decide) ?_
                refine aw_iconst (pc := 180) C dL_common_180 (i := (1 : Int)) (by decide) ?_
                refine aw_istore (pc := 181) C dL_common_181 (by rw [hml]; decide) ?_
                refine aw_iconst (pc := 183) C dL_common_183 (i := (0 : Int)) (by decide) ?_
                refine aw_istore (pc := 184) C dL_common_184 (by rw [hml]; decide) ?_
                obtain ⟨I_186, ⟨n9, hn9, hi9⟩, hst9⟩ := hw
                have L_186 : ∀ (n_186 : Nat) (x11_186 : Int) (x12_186 : Int) (x13_186 : Int) (h_186 : AH) (bc9 bs9 : Nat), I_186 n_186 x11_186 x12_186 x13_186 h_186 → bc9 + 0 * n_186 + 0 ≤ 2 → bs9 + 0 * n_186 + 0 ≤ 16 → AW G p l e ({ frames := 0, cells := 2, slots := 16, locals := 0 } : Room) s m args below meth c bc9 bs9 (MQ below (QG G (oV Q)) args s 2 16 (frA G)) 186 (eOf [(0, vR a0), (1, vR a1), (2, vR a2), (3, vR a3), (4, vR x4_4), (5, vR x5_10), (6, vI x6_18), (7, vI x7_18), (8, vI x8_40), (11, vI x11_186), (12, vI x12_186), (13, vI x13_186)]) [] h_186 := by
                  intro n_186
                  induction n_186 using Nat.strongRecOn with
                  | _ n_186 ih_186 =>
                  intro x11_186 x12_186 x13_186 h_186 bc9 bs9 hi9 hb9 hs9
                  have hw := hst9 n_186 x11_186 x12_186 x13_186 h_186 hi9
                  refine aw_iload (pc := 186) C dL_common_186 rfl ?_
                  refine aw_iload (pc := 188) C dL_common_188 rfl ?_
                  obtain ⟨k_249, hk_249, hw⟩ := jn_out hw
                  have J_249 : ∀  (h_249 : AH) (bc8 bs8 : Nat), k_249  h_249 → bc8 ≤ 2 → bs8 ≤ 16 → AW G p l e ({ frames := 0, cells := 2, slots := 16, locals := 0 } : Room) s m args below meth c bc8 bs8 (MQ below (QG G (oV Q)) args s 2 16 (frA G)) 249 (eOf [(0, vR a0), (1, vR a1), (2, vR a2), (3, vR a3), (4, vR x4_4), (5, vR x5_10), (6, vI x6_18), (7, vI x7_18), (8, vI x8_40), (11, vI x11_186)]) [] h_249 := by
                    intro  h_249 bc8 bs8 hw hb8 hs8
                    rw [hk_249] at hw
                    refine aw_iload (pc := 249) C dL_common_249 rfl ?_
                    refine aw_if_ne (pc := 251) (tgt := 257) C dL_common_251 (by decide) (fun hc9 => ?_) (fun hc9 => ?_)
                    · have hw := hw.1 hc9
                      refine aw_iload (pc := 257) C dL_common_257 rfl ?_
                      refine aw_istore (pc := 259) C dL_common_259 (by rw [hml]; decide) ?_
                      refine aw_iconst (pc := 261) C dL_common_261 (i := (0 : Int)) (by decide) ?_
                      refine aw_istore (pc := 262) C dL_common_262 (by rw [hml]; decide) ?_
                      obtain ⟨I_264, ⟨n9, hn9, hi9⟩, hst9⟩ := hw
                      have L_264 : ∀ (n_264 : Nat) (x13_264 : Int) (h_264 : AH) (bc9 bs9 : Nat), I_264 n_264 x13_264 h_264 → bc9 + 0 * n_264 + 0 ≤ 2 → bs9 + 0 * n_264 + 0 ≤ 16 → AW G p l e ({ frames := 0, cells := 2, slots := 16, locals := 0 } : Room) s m args below meth c bc9 bs9 (MQ below (QG G (oV Q)) args s 2 16 (frA G)) 264 (eOf [(0, vR a0), (1, vR a1), (2, vR a2), (3, vR a3), (4, vR x4_4), (5, vR x5_10), (6, vI x8_40), (7, vI x7_18), (8, vI x8_40), (13, vI x13_264)]) [] h_264 := by
                        intro n_264
                        induction n_264 using Nat.strongRecOn with
                        | _ n_264 ih_264 =>
                        intro x13_264 h_264 bc9 bs9 hi9 hb9 hs9
                        have hw := hst9 n_264 x13_264 h_264 hi9
                        refine aw_iload (pc := 264) C dL_common_264 rfl ?_
                        refine aw_iload (pc := 266) C dL_common_266 rfl ?_
                        refine aw_icmp_ge (pc := 268) (tgt := 287) C dL_common_268 (by decide) (fun hc9 => ?_) (fun hc9 => ?_)
                        · have hw := hw.1 hc9
                          refine aw_sub [(0, vR a0), (1, vR a1), (2, vR a2), (3, vR a3), (4, vR x4_4), (5, vR x5_10), (6, vI x8_40), (7, vI x7_18)] ⟨rfl, rfl, rfl, rfl, rfl, rfl, rfl, rfl, trivial⟩ ?_
                          exact J_287 _ _ _ _ hw (by omega) (by omega)
                        · have hw := hw.2 hc9
                          refine aw_aload (pc := 271) C dL_common_271 rfl ?_
                          refine aw_iload (pc := 273) C dL_common_273 rfl ?_
                          refine aw_aload (pc := 275) C dL_common_275 rfl ?_
                          refine aw_iload (pc := 277) C dL_common_277 rfl ?_
                          obtain ⟨⟨k9, hp9⟩, hw⟩ := hw
                          refine aw_iald (pc := 279) C dL_common_279 hp9 ?_
                          obtain ⟨⟨k9, hp9⟩, hw⟩ := hw
                          refine aw_iast (pc := 280) C dL_common_280 hp9 (aw_nmH (fun h280 e9 => ?_))
                          have hw := hw h280 e9
                          obtain ⟨hp9, hw⟩ := hw
                          refine aw_iincN (pc := 281) C dL_common_281 (k := 1) (by decide) rfl (by rw [hml]; decide) hp9 (fun x13_281 e9 => ?_)
                          have hw := hw x13_281 e9
                          refine aw_goto (pc := 284) (tgt := 264) C dL_common_284 (by decide) ?_
                          obtain ⟨m9, hm9, hw⟩ := hw
                          refine aw_sub [(0, vR a0), (1, vR a1), (2, vR a2), (3, vR a3), (4, vR x4_4), (5, vR x5_10), (6, vI x8_40), (7, vI x7_18), (8, vI x8_40), (13, vI x13_281)] ⟨rfl, rfl, rfl, rfl, rfl, rfl, rfl, rfl, rfl, rfl, trivial⟩ ?_
                          exact ih_264 m9 hm9 _ _ _ _ hw (by omega) (by omega)
                      refine aw_sub [(0, vR a0), (1, vR a1), (2, vR a2), (3, vR a3), (4, vR x4_4), (5, vR x5_10), (6, vI x8_40), (7, vI x7_18), (8, vI x8_40), (13, vI (0 : Int))] ⟨rfl, rfl, rfl, rfl, rfl, rfl, rfl, rfl, rfl, rfl, trivial⟩ ?_
                      exact L_264 n9 _ _ _ _ hi9 (by omega) (by omega)
                    · have hw := hw.2 hc9
                      refine aw_goto (pc := 254) (tgt := 287) C dL_common_254 (by decide) ?_
                      refine aw_sub [(0, vR a0), (1, vR a1), (2, vR a2), (3, vR a3), (4, vR x4_4), (5, vR x5_10), (6, vI x6_18), (7, vI x7_18)] ⟨rfl, rfl, rfl, rfl, rfl, rfl, rfl, rfl, trivial⟩ ?_
                      exact J_287 _ _ _ _ hw (by omega) (by omega)
                  refine aw_icmp_ge (pc := 190) (tgt := 249) C dL_common_190 (by decide) (fun hc9 => ?_) (fun hc9 => ?_)
                  · have hw := hw.1 hc9
                    refine aw_sub [(0, vR a0), (1, vR a1), (2, vR a2), (3, vR a3), (4, vR x4_4), (5, vR x5_10), (6, vI x6_18), (7, vI x7_18), (8, vI x8_40), (11, vI x11_186)] ⟨rfl, rfl, rfl, rfl, rfl, rfl, rfl, rfl, rfl, rfl, trivial⟩ ?_
                    exact J_249  _ _ _ hw (by omega) (by omega)
                  · have hw := hw.2 hc9
                    refine aw_iload (pc := 193) C dL_common_193 rfl ?_
                    refine aw_if_ne (pc := 195) (tgt := 249) C dL_common_195 (by decide) (fun hc9 => ?_) (fun hc9 => ?_)
                    · have hw := hw.1 hc9
                      refine aw_sub [(0, vR a0), (1, vR a1), (2, vR a2), (3, vR a3), (4, vR x4_4), (5, vR x5_10), (6, vI x6_18), (7, vI x7_18), (8, vI x8_40), (11, vI x11_186)] ⟨rfl, rfl, rfl, rfl, rfl, rfl, rfl, rfl, rfl, rfl, trivial⟩ ?_
                      exact J_249  _ _ _ hw (by omega) (by omega)
                    · have hw := hw.2 hc9
                      refine aw_iload (pc := 198) C dL_common_198 rfl ?_
                      refine aw_if_eq (pc := 200) (tgt := 249) C dL_common_200 (by decide) (fun hc9 => ?_) (fun hc9 => ?_)
                      · have hw := hw.1 hc9
                        refine aw_sub [(0, vR a0), (1, vR a1), (2, vR a2), (3, vR a3), (4, vR x4_4), (5, vR x5_10), (6, vI x6_18), (7, vI x7_18), (8, vI x8_40), (11, vI x11_186)] ⟨rfl, rfl, rfl, rfl, rfl, rfl, rfl, rfl, rfl, rfl, trivial⟩ ?_
                        exact J_249  _ _ _ hw (by omega) (by omega)
                      · have hw := hw.2 hc9
                        refine aw_aload (pc := 203) C dL_common_203 rfl ?_
                        refine aw_iload (pc := 205) C dL_common_205 rfl ?_
                        obtain ⟨⟨k9, hp9⟩, hw⟩ := hw
                        refine aw_iald (pc := 207) C dL_common_207 hp9 ?_
                        refine aw_aload (pc := 208) C dL_common_208 rfl ?_
                        refine aw_iload (pc := 210) C dL_common_210 rfl ?_
                        obtain ⟨⟨k9, hp9⟩, hw⟩ := hw
                        refine aw_iald (pc := 212) C dL_common_212 hp9 ?_
                        obtain ⟨k_221, hk_221, hw⟩ := jn_out hw
                        have J_221 : ∀ (t0_221 : Int) (h_221 : AH) (bc8 bs8 : Nat), k_221 t0_221 h_221 → bc8 ≤ 2 → bs8 ≤ 16 → AW G p l e ({ frames := 0, cells := 2, slots := 16, locals := 0 } : Room) s m args below meth c bc8 bs8 (MQ below (QG G (oV Q)) args s 2 16 (frA G)) 221 (eOf [(0, vR a0), (1, vR a1), (2, vR a2), (3, vR a3), (4, vR x4_4), (5, vR x5_10), (6, vI x6_18), (7, vI x7_18), (8, vI x8_40), (13, vI x13_186)]) [vI t0_221] h_221 := by
                          intro t0_221 h_221 bc8 bs8 hw hb8 hs8
                          rw [hk_221] at hw
                          refine aw_istore (pc := 221) C dL_common_221 (by rw [hml]; decide) ?_
                          refine aw_aload (pc := 223) C dL_common_223 rfl ?_
                          refine aw_iload (pc := 225) C dL_common_225 rfl ?_
                          obtain ⟨⟨k9, hp9⟩, hw⟩ := hw
                          refine aw_iald (pc := 227) C dL_common_227 hp9 ?_
                          refine aw_aload (pc := 228) C dL_common_228 rfl ?_
                          refine aw_iload (pc := 230) C dL_common_230 rfl ?_
                          obtain ⟨⟨k9, hp9⟩, hw⟩ := hw
                          refine aw_iald (pc := 232) C dL_common_232 hp9 ?_
                          obtain ⟨k_241, hk_241, hw⟩ := jn_out hw
                          have J_241 : ∀ (t0_241 : Int) (h_241 : AH) (bc8 bs8 : Nat), k_241 t0_241 h_241 → bc8 ≤ 2 → bs8 ≤ 16 → AW G p l e ({ frames := 0, cells := 2, slots := 16, locals := 0 } : Room) s m args below meth c bc8 bs8 (MQ below (QG G (oV Q)) args s 2 16 (frA G)) 241 (eOf [(0, vR a0), (1, vR a1), (2, vR a2), (3, vR a3), (4, vR x4_4), (5, vR x5_10), (6, vI x6_18), (7, vI x7_18), (8, vI x8_40), (11, vI t0_221), (13, vI x13_186)]) [vI t0_241] h_241 := by
                            intro t0_241 h_241 bc8 bs8 hw hb8 hs8
                            rw [hk_241] at hw
                            refine aw_istore (pc := 241) C dL_common_241 (by rw [hml]; decide) ?_
                            obtain ⟨hp9, hw⟩ := hw
                            refine aw_iincN (pc := 243) C dL_common_243 (k := 1) (by decide) rfl (by rw [hml]; decide) hp9 (fun x13_243 e9 => ?_)
                            have hw := hw x13_243 e9
                            refine aw_goto (pc := 246) (tgt := 186) C dL_common_246 (by decide) ?_
                            obtain ⟨m9, hm9, hw⟩ := hw
                            refine aw_sub [(0, vR a0), (1, vR a1), (2, vR a2), (3, vR a3), (4, vR x4_4), (5, vR x5_10), (6, vI x6_18), (7, vI x7_18), (8, vI x8_40), (11, vI t0_221), (12, vI t0_241), (13, vI x13_243)] ⟨rfl, rfl, rfl, rfl, rfl, rfl, rfl, rfl, rfl, rfl, rfl, rfl, trivial⟩ ?_
                            exact ih_186 m9 hm9 _ _ _ _ _ _ hw (by omega) (by omega)
                          refine aw_icmp_ne (pc := 233) (tgt := 240) C dL_common_233 (by decide) (fun hc9 => ?_) (fun hc9 => ?_)
                          · have hw := hw.1 hc9
                            refine aw_iconst (pc := 240) C dL_common_240 (i := (0 : Int)) (by decide) ?_
                            refine aw_sub [(0, vR a0), (1, vR a1), (2, vR a2), (3, vR a3), (4, vR x4_4), (5, vR x5_10), (6, vI x6_18), (7, vI x7_18), (8, vI x8_40), (11, vI t0_221), (13, vI x13_186)] ⟨rfl, rfl, rfl, rfl, rfl, rfl, rfl, rfl, rfl, rfl, rfl, trivial⟩ ?_
                            exact J_241 _ _ _ _ hw (by omega) (by omega)
                          · have hw := hw.2 hc9
                            refine aw_iconst (pc := 236) C dL_common_236 (i := (1 : Int)) (by decide) ?_
                            refine aw_goto (pc := 237) (tgt := 241) C dL_common_237 (by decide) ?_
                            refine aw_sub [(0, vR a0), (1, vR a1), (2, vR a2), (3, vR a3), (4, vR x4_4), (5, vR x5_10), (6, vI x6_18), (7, vI x7_18), (8, vI x8_40), (11, vI t0_221), (13, vI x13_186)] ⟨rfl, rfl, rfl, rfl, rfl, rfl, rfl, rfl, rfl, rfl, rfl, trivial⟩ ?_
                            exact J_241 _ _ _ _ hw (by omega) (by omega)
                        refine aw_icmp_ge (pc := 213) (tgt := 220) C dL_common_213 (by decide) (fun hc9 => ?_) (fun hc9 => ?_)
                        · have hw := hw.1 hc9
                          refine aw_iconst (pc := 220) C dL_common_220 (i := (0 : Int)) (by decide) ?_
                          refine aw_sub [(0, vR a0), (1, vR a1), (2, vR a2), (3, vR a3), (4, vR x4_4), (5, vR x5_10), (6, vI x6_18), (7, vI x7_18), (8, vI x8_40), (13, vI x13_186)] ⟨rfl, rfl, rfl, rfl, rfl, rfl, rfl, rfl, rfl, rfl, trivial⟩ ?_
                          exact J_221 _ _ _ _ hw (by omega) (by omega)
                        · have hw := hw.2 hc9
                          refine aw_iconst (pc := 216) C dL_common_216 (i := (1 : Int)) (by decide) ?_
                          refine aw_goto (pc := 217) (tgt := 221) C dL_common_217 (by decide) ?_
                          refine aw_sub [(0, vR a0), (1, vR a1), (2, vR a2), (3, vR a3), (4, vR x4_4), (5, vR x5_10), (6, vI x6_18), (7, vI x7_18), (8, vI x8_40), (13, vI x13_186)] ⟨rfl, rfl, rfl, rfl, rfl, rfl, rfl, rfl, rfl, rfl, trivial⟩ ?_
                          exact J_221 _ _ _ _ hw (by omega) (by omega)
                refine aw_sub [(0, vR a0), (1, vR a1), (2, vR a2), (3, vR a3), (4, vR x4_4), (5, vR x5_10), (6, vI x6_18), (7, vI x7_18), (8, vI x8_40), (11, vI t0_178), (12, vI (1 : Int)), (13, vI (0 : Int))] ⟨rfl, rfl, rfl, rfl, rfl, rfl, rfl, rfl, rfl, rfl, rfl, rfl, trivial⟩ ?_
                exact L_186 n9 _ _ _ _ _ _ hi9 (by omega) (by omega)
              refine aw_icmp_le (pc := 170) (tgt := 177) C dL_common_170 (by decide) (fun hc9 => ?_) (fun hc9 => ?_)
              · have hw := hw.1 hc9
                refine aw_iconst (pc := 177) C dL_common_177 (i := (0 : Int)) (by decide) ?_
                refine aw_sub [(0, vR a0), (1, vR a1), (2, vR a2), (3, vR a3), (4, vR x4_4), (5, vR x5_10), (6, vI x6_18), (7, vI x7_18), (8, vI x8_40)] ⟨rfl, rfl, rfl, rfl, rfl, rfl, rfl, rfl, rfl, trivial⟩ ?_
                exact J_178 _ _ _ _ hw (by omega) (by omega)
              · have hw := hw.2 hc9
                refine aw_iconst (pc := 173) C dL_common_173 (i := (1 : Int)) (by decide) ?_
                refine aw_goto (pc := 174) (tgt := 178) C dL_common_174 (by decide) ?_
                refine aw_sub [(0, vR a0), (1, vR a1), (2, vR a2), (3, vR a3), (4, vR x4_4), (5, vR x5_10), (6, vI x6_18), (7, vI x7_18), (8, vI x8_40)] ⟨rfl, rfl, rfl, rfl, rfl, rfl, rfl, rfl, rfl, trivial⟩ ?_
                exact J_178 _ _ _ _ hw (by omega) (by omega)
            · have hw := hw.2 hc9
              refine aw_goto (pc := 163) (tgt := 287) C dL_common_163 (by decide) ?_
              refine aw_sub [(0, vR a0), (1, vR a1), (2, vR a2), (3, vR a3), (4, vR x4_4), (5, vR x5_10), (6, vI x6_18), (7, vI x7_18)] ⟨rfl, rfl, rfl, rfl, rfl, rfl, rfl, rfl, trivial⟩ ?_
              exact J_287 _ _ _ _ hw (by omega) (by omega)
        refine aw_icmp_ge (pc := 45) (tgt := 151) C dL_common_45 (by decide) (fun hc9 => ?_) (fun hc9 => ?_)
        · have hw := hw.1 hc9
          refine aw_sub [(0, vR a0), (1, vR a1), (2, vR a2), (3, vR a3), (4, vR x4_4), (5, vR x5_10), (6, vI x6_18), (7, vI x7_18), (8, vI x8_40), (10, vI x10_40)] ⟨rfl, rfl, rfl, rfl, rfl, rfl, rfl, rfl, rfl, rfl, trivial⟩ ?_
          exact J_151  _ _ _ hw (by omega) (by omega)
        · have hw := hw.2 hc9
          refine aw_iload (pc := 48) C dL_common_48 rfl ?_
          refine aw_if_eq (pc := 50) (tgt := 151) C dL_common_50 (by decide) (fun hc9 => ?_) (fun hc9 => ?_)
          · have hw := hw.1 hc9
            refine aw_sub [(0, vR a0), (1, vR a1), (2, vR a2), (3, vR a3), (4, vR x4_4), (5, vR x5_10), (6, vI x6_18), (7, vI x7_18), (8, vI x8_40), (10, vI x10_40)] ⟨rfl, rfl, rfl, rfl, rfl, rfl, rfl, rfl, rfl, rfl, trivial⟩ ?_
            exact J_151  _ _ _ hw (by omega) (by omega)
          · have hw := hw.2 hc9
            refine aw_iload (pc := 53) C dL_common_53 rfl ?_
            refine aw_iload (pc := 55) C dL_common_55 rfl ?_
            obtain ⟨hp9, hw⟩ := hw
            refine aw_ishr (pc := 57) C dL_common_57 hp9 ?_
            refine aw_iconst (pc := 58) C dL_common_58 (i := (1 : Int)) (by decide) ?_
            refine aw_iand1 (pc := 59) C dL_common_59  ?_
            obtain ⟨k_145, hk_145, hw⟩ := jn_out hw
            have J_145 : ∀ (x8_145 : Int) (x9_145 : Int) (x10_145 : Int) (h_145 : AH) (bc8 bs8 : Nat), k_145 x8_145 x9_145 x10_145 h_145 → bc8 ≤ 2 → bs8 ≤ 16 → AW G p l e ({ frames := 0, cells := 2, slots := 16, locals := 0 } : Room) s m args below meth c bc8 bs8 (MQ below (QG G (oV Q)) args s 2 16 (frA G)) 145 (eOf [(0, vR a0), (1, vR a1), (2, vR a2), (3, vR a3), (4, vR x4_4), (5, vR x5_10), (6, vI x6_18), (7, vI x7_18), (8, vI x8_145), (9, vI x9_145), (10, vI x10_145), (11, vI x11_40)]) [] h_145 := by
              intro x8_145 x9_145 x10_145 h_145 bc8 bs8 hw hb8 hs8
              rw [hk_145] at hw
              obtain ⟨hp9, hw⟩ := hw
              refine aw_iincN (pc := 145) C dL_common_145 (k := 1) (by decide) rfl (by rw [hml]; decide) hp9 (fun x11_145 e9 => ?_)
              have hw := hw x11_145 e9
              refine aw_goto (pc := 148) (tgt := 40) C dL_common_148 (by decide) ?_
              obtain ⟨m9, hm9, hw⟩ := hw
              refine aw_sub [(0, vR a0), (1, vR a1), (2, vR a2), (3, vR a3), (4, vR x4_4), (5, vR x5_10), (6, vI x6_18), (7, vI x7_18), (8, vI x8_145), (9, vI x9_145), (10, vI x10_145), (11, vI x11_145)] ⟨rfl, rfl, rfl, rfl, rfl, rfl, rfl, rfl, rfl, rfl, rfl, rfl, trivial⟩ ?_
              exact ih_40 m9 hm9 _ _ _ _ _ _ _ hw (by omega) (by omega)
            refine aw_if_ne (pc := 60) (tgt := 66) C dL_common_60 (by decide) (fun hc9 => ?_) (fun hc9 => ?_)
            · have hw := hw.1 hc9
              obtain ⟨I_66, ⟨n9, hn9, hi9⟩, hst9⟩ := hw
              have L_66 : ∀ (n_66 : Nat) (x9_66 : Int) (h_66 : AH) (bc9 bs9 : Nat), I_66 n_66 x9_66 h_66 → bc9 + 0 * n_66 + 0 ≤ 2 → bs9 + 0 * n_66 + 0 ≤ 16 → AW G p l e ({ frames := 0, cells := 2, slots := 16, locals := 0 } : Room) s m args below meth c bc9 bs9 (MQ below (QG G (oV Q)) args s 2 16 (frA G)) 66 (eOf [(0, vR a0), (1, vR a1), (2, vR a2), (3, vR a3), (4, vR x4_4), (5, vR x5_10), (6, vI x6_18), (7, vI x7_18), (8, vI x8_40), (9, vI x9_66), (11, vI x11_40)]) [] h_66 := by
                intro n_66
                induction n_66 using Nat.strongRecOn with
                | _ n_66 ih_66 =>
                intro x9_66 h_66 bc9 bs9 hi9 hb9 hs9
                have hw := hst9 n_66 x9_66 h_66 hi9
                refine aw_iload (pc := 66) C dL_common_66 rfl ?_
                refine aw_aload_n (pc := 68) C dL_common_68 rfl rfl ?_
                refine aw_iconst (pc := 69) C dL_common_69 (i := (1 : Int)) (by decide) ?_
                obtain ⟨⟨k9, hp9⟩, hw⟩ := hw
                refine aw_iald (pc := 70) C dL_common_70 hp9 ?_
                obtain ⟨k_99, hk_99, hw⟩ := jn_out hw
                have J_99 : ∀  (h_99 : AH) (bc8 bs8 : Nat), k_99  h_99 → bc8 ≤ 2 → bs8 ≤ 16 → AW G p l e ({ frames := 0, cells := 2, slots := 16, locals := 0 } : Room) s m args below meth c bc8 bs8 (MQ below (QG G (oV Q)) args s 2 16 (frA G)) 99 (eOf [(0, vR a0), (1, vR a1), (2, vR a2), (3, vR a3), (4, vR x4_4), (5, vR x5_10), (6, vI x6_18), (7, vI x7_18), (8, vI x8_40), (9, vI x9_66), (11, vI x11_40)]) [] h_99 := by
                  intro  h_99 bc8 bs8 hw hb8 hs8
                  rw [hk_99] at hw
                  refine aw_iload (pc := 99) C dL_common_99 rfl ?_
                  refine aw_aload_n (pc := 101) C dL_common_101 rfl rfl ?_
                  refine aw_iconst (pc := 102) C dL_common_102 (i := (1 : Int)) (by decide) ?_
                  obtain ⟨⟨k9, hp9⟩, hw⟩ := hw
                  refine aw_iald (pc := 103) C dL_common_103 hp9 ?_
                  obtain ⟨k_112, hk_112, hw⟩ := jn_out hw
                  have J_112 : ∀ (t0_112 : Int) (h_112 : AH) (bc8 bs8 : Nat), k_112 t0_112 h_112 → bc8 ≤ 2 → bs8 ≤ 16 → AW G p l e ({ frames := 0, cells := 2, slots := 16, locals := 0 } : Room) s m args below meth c bc8 bs8 (MQ below (QG G (oV Q)) args s 2 16 (frA G)) 112 (eOf [(0, vR a0), (1, vR a1), (2, vR a2), (3, vR a3), (4, vR x4_4), (5, vR x5_10), (6, vI x6_18), (7, vI x7_18), (8, vI x8_40), (9, vI x9_66), (11, vI x11_40)]) [vI t0_112] h_112 := by
                    intro t0_112 h_112 bc8 bs8 hw hb8 hs8
                    rw [hk_112] at hw
                    refine aw_istore (pc := 112) C dL_common_112 (by rw [hml]; decide) ?_
                    refine aw_aload (pc := 114) C dL_common_114 rfl ?_
                    refine aw_iload (pc := 116) C dL_common_116 rfl ?_
                    refine aw_bipush (pc := 118) C dL_common_118 (i := (100 : Int)) (by decide) ?_
                    refine aw_iload (pc := 120) C dL_common_120 rfl ?_
                    obtain ⟨hp9, hw⟩ := hw
                    refine aw_imul (pc := 122) C dL_common_122 hp9 ?_
                    refine aw_iload (pc := 123) C dL_common_123 rfl ?_
                    obtain ⟨hp9, hw⟩ := hw
                    refine aw_iadd (pc := 125) C dL_common_125 hp9 ?_
                    obtain ⟨⟨k9, hp9⟩, hw⟩ := hw
                    refine aw_iast (pc := 126) C dL_common_126 hp9 (aw_nmH (fun h126 e9 => ?_))
                    have hw := hw h126 e9
                    refine aw_iload (pc := 127) C dL_common_127 rfl ?_
                    refine aw_iload (pc := 129) C dL_common_129 rfl ?_
                    obtain ⟨k_139, hk_139, hw⟩ := jn_out hw
                    have J_139 : ∀ (t1_139 : Int) (h_139 : AH) (bc8 bs8 : Nat), k_139 t1_139 h_139 → bc8 ≤ 2 → bs8 ≤ 16 → AW G p l e ({ frames := 0, cells := 2, slots := 16, locals := 0 } : Room) s m args below meth c bc8 bs8 (MQ below (QG G (oV Q)) args s 2 16 (frA G)) 139 (eOf [(0, vR a0), (1, vR a1), (2, vR a2), (3, vR a3), (4, vR x4_4), (5, vR x5_10), (6, vI x6_18), (7, vI x7_18), (9, vI x9_66), (10, vI t0_112), (11, vI x11_40)]) [vI t1_139, vI x8_40] h_139 := by
                      intro t1_139 h_139 bc8 bs8 hw hb8 hs8
                      rw [hk_139] at hw
                      obtain ⟨hp9, hw⟩ := hw
                      refine aw_iadd (pc := 139) C dL_common_139 hp9 ?_
                      refine aw_nmI (fun x8_140 e9 => ?_)
                      have hw := hw x8_140 e9
                      refine aw_istore (pc := 140) C dL_common_140 (by rw [hml]; decide) ?_
                      obtain ⟨hp9, hw⟩ := hw
                      refine aw_iincN (pc := 142) C dL_common_142 (k := 1) (by decide) rfl (by rw [hml]; decide) hp9 (fun x9_142 e9 => ?_)
                      have hw := hw x9_142 e9
                      refine aw_sub [(0, vR a0), (1, vR a1), (2, vR a2), (3, vR a3), (4, vR x4_4), (5, vR x5_10), (6, vI x6_18), (7, vI x7_18), (8, vI x8_140), (9, vI x9_142), (10, vI t0_112), (11, vI x11_40)] ⟨rfl, rfl, rfl, rfl, rfl, rfl, rfl, rfl, rfl, rfl, rfl, rfl, trivial⟩ ?_
                      exact J_145 _ _ _ _ _ _ hw (by omega) (by omega)
                    refine aw_if_eq (pc := 131) (tgt := 138) C dL_common_131 (by decide) (fun hc9 => ?_) (fun hc9 => ?_)
                    · have hw := hw.1 hc9
                      refine aw_iconst (pc := 138) C dL_common_138 (i := (0 : Int)) (by decide) ?_
                      refine aw_sub [(0, vR a0), (1, vR a1), (2, vR a2), (3, vR a3), (4, vR x4_4), (5, vR x5_10), (6, vI x6_18), (7, vI x7_18), (9, vI x9_66), (10, vI t0_112), (11, vI x11_40)] ⟨rfl, rfl, rfl, rfl, rfl, rfl, rfl, rfl, rfl, rfl, rfl, trivial⟩ ?_
                      exact J_139 _ _ _ _ hw (by omega) (by omega)
                    · have hw := hw.2 hc9
                      refine aw_iconst (pc := 134) C dL_common_134 (i := (1 : Int)) (by decide) ?_
                      refine aw_goto (pc := 135) (tgt := 139) C dL_common_135 (by decide) ?_
                      refine aw_sub [(0, vR a0), (1, vR a1), (2, vR a2), (3, vR a3), (4, vR x4_4), (5, vR x5_10), (6, vI x6_18), (7, vI x7_18), (9, vI x9_66), (10, vI t0_112), (11, vI x11_40)] ⟨rfl, rfl, rfl, rfl, rfl, rfl, rfl, rfl, rfl, rfl, rfl, trivial⟩ ?_
                      exact J_139 _ _ _ _ hw (by omega) (by omega)
                  refine aw_icmp_ge (pc := 104) (tgt := 111) C dL_common_104 (by decide) (fun hc9 => ?_) (fun hc9 => ?_)
                  · have hw := hw.1 hc9
                    refine aw_iconst (pc := 111) C dL_common_111 (i := (0 : Int)) (by decide) ?_
                    refine aw_sub [(0, vR a0), (1, vR a1), (2, vR a2), (3, vR a3), (4, vR x4_4), (5, vR x5_10), (6, vI x6_18), (7, vI x7_18), (8, vI x8_40), (9, vI x9_66), (11, vI x11_40)] ⟨rfl, rfl, rfl, rfl, rfl, rfl, rfl, rfl, rfl, rfl, rfl, trivial⟩ ?_
                    exact J_112 _ _ _ _ hw (by omega) (by omega)
                  · have hw := hw.2 hc9
                    refine aw_iconst (pc := 107) C dL_common_107 (i := (1 : Int)) (by decide) ?_
                    refine aw_goto (pc := 108) (tgt := 112) C dL_common_108 (by decide) ?_
                    refine aw_sub [(0, vR a0), (1, vR a1), (2, vR a2), (3, vR a3), (4, vR x4_4), (5, vR x5_10), (6, vI x6_18), (7, vI x7_18), (8, vI x8_40), (9, vI x9_66), (11, vI x11_40)] ⟨rfl, rfl, rfl, rfl, rfl, rfl, rfl, rfl, rfl, rfl, rfl, trivial⟩ ?_
                    exact J_112 _ _ _ _ hw (by omega) (by omega)
                refine aw_icmp_ge (pc := 71) (tgt := 99) C dL_common_71 (by decide) (fun hc9 => ?_) (fun hc9 => ?_)
                · have hw := hw.1 hc9
                  refine aw_sub [(0, vR a0), (1, vR a1), (2, vR a2), (3, vR a3), (4, vR x4_4), (5, vR x5_10), (6, vI x6_18), (7, vI x7_18), (8, vI x8_40), (9, vI x9_66), (11, vI x11_40)] ⟨rfl, rfl, rfl, rfl, rfl, rfl, rfl, rfl, rfl, rfl, rfl, trivial⟩ ?_
                  exact J_99  _ _ _ hw (by omega) (by omega)
                · have hw := hw.2 hc9
                  refine aw_aload_n (pc := 74) C dL_common_74 rfl rfl ?_
                  refine aw_iconst (pc := 75) C dL_common_75 (i := (2 : Int)) (by decide) ?_
                  refine aw_iload (pc := 76) C dL_common_76 rfl ?_
                  obtain ⟨hp9, hw⟩ := hw
                  refine aw_imul (pc := 78) C dL_common_78 hp9 ?_
                  refine aw_iconst (pc := 79) C dL_common_79 (i := (1 : Int)) (by decide) ?_
                  obtain ⟨hp9, hw⟩ := hw
                  refine aw_iadd (pc := 80) C dL_common_80 hp9 ?_
                  obtain ⟨⟨k9, hp9⟩, hw⟩ := hw
                  refine aw_iald (pc := 81) C dL_common_81 hp9 ?_
                  refine aw_aload_n (pc := 82) C dL_common_82 rfl rfl ?_
                  refine aw_iconst (pc := 83) C dL_common_83 (i := (2 : Int)) (by decide) ?_
                  refine aw_iload (pc := 84) C dL_common_84 rfl ?_
                  obtain ⟨hp9, hw⟩ := hw
                  refine aw_imul (pc := 86) C dL_common_86 hp9 ?_
                  refine aw_iconst (pc := 87) C dL_common_87 (i := (1 : Int)) (by decide) ?_
                  obtain ⟨hp9, hw⟩ := hw
                  refine aw_iadd (pc := 88) C dL_common_88 hp9 ?_
                  obtain ⟨⟨k9, hp9⟩, hw⟩ := hw
                  refine aw_iald (pc := 89) C dL_common_89 hp9 ?_
                  refine aw_icmp_eq (pc := 90) (tgt := 99) C dL_common_90 (by decide) (fun hc9 => ?_) (fun hc9 => ?_)
                  · have hw := hw.1 hc9
                    refine aw_sub [(0, vR a0), (1, vR a1), (2, vR a2), (3, vR a3), (4, vR x4_4), (5, vR x5_10), (6, vI x6_18), (7, vI x7_18), (8, vI x8_40), (9, vI x9_66), (11, vI x11_40)] ⟨rfl, rfl, rfl, rfl, rfl, rfl, rfl, rfl, rfl, rfl, rfl, trivial⟩ ?_
                    exact J_99  _ _ _ hw (by omega) (by omega)
                  · have hw := hw.2 hc9
                    obtain ⟨hp9, hw⟩ := hw
                    refine aw_iincN (pc := 93) C dL_common_93 (k := 1) (by decide) rfl (by rw [hml]; decide) hp9 (fun x9_93 e9 => ?_)
                    have hw := hw x9_93 e9
                    refine aw_goto (pc := 96) (tgt := 66) C dL_common_96 (by decide) ?_
                    obtain ⟨m9, hm9, hw⟩ := hw
                    refine aw_sub [(0, vR a0), (1, vR a1), (2, vR a2), (3, vR a3), (4, vR x4_4), (5, vR x5_10), (6, vI x6_18), (7, vI x7_18), (8, vI x8_40), (9, vI x9_93), (11, vI x11_40)] ⟨rfl, rfl, rfl, rfl, rfl, rfl, rfl, rfl, rfl, rfl, rfl, trivial⟩ ?_
                    exact ih_66 m9 hm9 _ _ _ _ hw (by omega) (by omega)
              refine aw_sub [(0, vR a0), (1, vR a1), (2, vR a2), (3, vR a3), (4, vR x4_4), (5, vR x5_10), (6, vI x6_18), (7, vI x7_18), (8, vI x8_40), (9, vI x9_40), (11, vI x11_40)] ⟨rfl, rfl, rfl, rfl, rfl, rfl, rfl, rfl, rfl, rfl, rfl, trivial⟩ ?_
              exact L_66 n9 _ _ _ _ hi9 (by omega) (by omega)
            · have hw := hw.2 hc9
              refine aw_goto (pc := 63) (tgt := 145) C dL_common_63 (by decide) ?_
              refine aw_sub [(0, vR a0), (1, vR a1), (2, vR a2), (3, vR a3), (4, vR x4_4), (5, vR x5_10), (6, vI x6_18), (7, vI x7_18), (8, vI x8_40), (9, vI x9_40), (10, vI x10_40), (11, vI x11_40)] ⟨rfl, rfl, rfl, rfl, rfl, rfl, rfl, rfl, rfl, rfl, rfl, rfl, trivial⟩ ?_
              exact J_145 _ _ _ _ _ _ hw (by omega) (by omega)
      refine aw_sub [(0, vR a0), (1, vR a1), (2, vR a2), (3, vR a3), (4, vR x4_4), (5, vR x5_10), (6, vI x6_18), (7, vI x7_18), (8, vI (0 : Int)), (9, vI (0 : Int)), (10, vI (1 : Int)), (11, vI (0 : Int))] ⟨rfl, rfl, rfl, rfl, rfl, rfl, rfl, rfl, rfl, rfl, rfl, rfl, trivial⟩ ?_
      exact L_40 n9 _ _ _ _ _ _ _ hi9 (by omega) (by omega)
  refine aw_sub [(0, vR a0), (1, vR a1), (2, vR a2), (3, vR a3), (4, vR x4_4), (5, vR x5_10), (6, vI (0 : Int)), (7, vI (1 : Int))] ⟨rfl, rfl, rfl, rfl, rfl, rfl, rfl, rfl, trivial⟩ ?_
  exact L_18 n9 _ _ _ _ _ hi9 (by omega) (by omega)
theorem dL_taken_0 : decode cL_taken 0 = .ok (.iconst 0, 1) := by decide +kernel
theorem dL_taken_1 : decode cL_taken 1 = .ok (.istore_n 3, 1) := by decide +kernel
theorem dL_taken_2 : decode cL_taken 2 = .ok (.iload_n 3, 1) := by decide +kernel
theorem dL_taken_3 : decode cL_taken 3 = .ok (.aload_n 1, 1) := by decide +kernel
theorem dL_taken_4 : decode cL_taken 4 = .ok (.iconst 0, 1) := by decide +kernel
theorem dL_taken_5 : decode cL_taken 5 = .ok (.iaload, 1) := by decide +kernel
theorem dL_taken_6 : decode cL_taken 6 = .ok (.if_icmp .ge 20, 3) := by decide +kernel
theorem dL_taken_9 : decode cL_taken 9 = .ok (.aload_n 2, 1) := by decide +kernel
theorem dL_taken_10 : decode cL_taken 10 = .ok (.iconst 2, 1) := by decide +kernel
theorem dL_taken_11 : decode cL_taken 11 = .ok (.iload_n 3, 1) := by decide +kernel
theorem dL_taken_12 : decode cL_taken 12 = .ok (.imul, 1) := by decide +kernel
theorem dL_taken_13 : decode cL_taken 13 = .ok (.iaload, 1) := by decide +kernel
theorem dL_taken_14 : decode cL_taken 14 = .ok (.iload_n 0, 1) := by decide +kernel
theorem dL_taken_15 : decode cL_taken 15 = .ok (.if_icmp .ne 5, 3) := by decide +kernel
theorem dL_taken_18 : decode cL_taken 18 = .ok (.iconst 1, 1) := by decide +kernel
theorem dL_taken_19 : decode cL_taken 19 = .ok (.ireturn, 1) := by decide +kernel
theorem dL_taken_20 : decode cL_taken 20 = .ok (.iinc 3 1, 3) := by decide +kernel
theorem dL_taken_23 : decode cL_taken 23 = .ok (.goto (-21), 3) := by decide +kernel
theorem dL_taken_26 : decode cL_taken 26 = .ok (.iconst 0, 1) := by decide +kernel
theorem dL_taken_27 : decode cL_taken 27 = .ok (.ireturn, 1) := by decide +kernel
theorem pd_L_taken : (parseMethodDescriptor yL_taken.desc).map (fun d => d.parameters.length) = some 3 := by decide +kernel
def w_L_taken (zz : Nat → Nat) (a0 : Int) (a1 : Nat) (a2 : Nat) (h : AH) (Q : Int → AH → Prop) : Prop := ∃ I_2 : Nat → Int → AH → Prop, (∃ n, I_2 n (0 : Int) h) ∧ ∀ (n_2 : Nat) (x3_2 : Int) (h_2 : AH), I_2 n_2 x3_2 h_2 → (okI h_2 a1 (0 : Int) ∧ (((haI h_2 a1 (0 : Int)) ≤ x3_2) → ((0 : Int) = 0 ∨ (0 : Int) = 1) ∧ Q (0 : Int) h_2) ∧ ((¬ ((haI h_2 a1 (0 : Int)) ≤ x3_2)) → inR ((2 : Int) * x3_2) ∧ okI h_2 a2 ((2 : Int) * x3_2) ∧ ((¬ (haI h_2 a2 ((2 : Int) * x3_2)) = a0) → inR (x3_2 + 1) ∧ ∀ x3_20 : Int, x3_20 = (x3_2 + 1) → ∃ m, m < n_2 ∧ I_2 m x3_20 h_2) ∧ (((haI h_2 a2 ((2 : Int) * x3_2)) = a0) → ((1 : Int) = 0 ∨ (1 : Int) = 1) ∧ Q (1 : Int) h_2)))
set_option maxRecDepth 100000 in
set_option maxHeartbeats 4000000 in
theorem met_L_taken (G : GG) (l : Launch) : ∀ (As : List Value) (a0 : Int) (a1 : Nat) (a2 : Nat) (h : AH) (Q : Int → AH → Prop), As.map ab = List.map some ([vI a0, vR a1, vR a2] : List AV) → w_L_taken G.2.2 a0 a1 a2 h Q → Met l yL_taken (.code yL_taken cL_taken 4 (some .boolean) :: xTb) ({ frames := 0, cells := 0, slots := 0, locals := 0 } : Room) (PcA G As h) (QG G (oI Q)) 0 0 (frA G) := by
  intro As a0 a1 a2 h Q hA hw
  refine met_of hA (by decide) (Nat.le_of_ble_eq_true rfl) (fun p e s m args below meth c C hml hr hnm => ?_)
  unfold w_L_taken at hw
  refine aw_iconst (pc := 0) C dL_taken_0 (i := (0 : Int)) (by decide) ?_
  refine aw_istore_n (pc := 1) C dL_taken_1 rfl (by rw [hml]; decide) ?_
  obtain ⟨I_2, ⟨n9, hi9⟩, hst9⟩ := hw
  have L_2 : ∀ (n_2 : Nat) (x3_2 : Int) (h_2 : AH), I_2 n_2 x3_2 h_2 → AW G p l e ({ frames := 0, cells := 0, slots := 0, locals := 0 } : Room) s m args below meth c 0 0 (MQ below (QG G (oI Q)) args s 0 0 (frA G)) 2 (eOf [(0, vI a0), (1, vR a1), (2, vR a2), (3, vI x3_2)]) [] h_2 := by
    intro n_2
    induction n_2 using Nat.strongRecOn with
    | _ n_2 ih_2 =>
    intro x3_2 h_2 hi9
    have hw := hst9 n_2 x3_2 h_2 hi9
    refine aw_iload_n (pc := 2) C dL_taken_2 rfl rfl ?_
    refine aw_aload_n (pc := 3) C dL_taken_3 rfl rfl ?_
    refine aw_iconst (pc := 4) C dL_taken_4 (i := (0 : Int)) (by decide) ?_
    obtain ⟨⟨k9, hp9⟩, hw⟩ := hw
    refine aw_iald (pc := 5) C dL_taken_5 hp9 ?_
    refine aw_icmp_ge (pc := 6) (tgt := 26) C dL_taken_6 (by decide) (fun hc9 => ?_) (fun hc9 => ?_)
    · have hw := hw.1 hc9
      refine aw_iconst (pc := 26) C dL_taken_26 (i := (0 : Int)) (by decide) ?_
      obtain ⟨hp9, hw⟩ := hw
      exact aw_zret (pc := 27) C hr dL_taken_27 ⟨Nat.le_of_ble_eq_true rfl, Nat.le_of_ble_eq_true rfl⟩ hp9 ⟨_, rfl, hw⟩
    · have hw := hw.2 hc9
      refine aw_aload_n (pc := 9) C dL_taken_9 rfl rfl ?_
      refine aw_iconst (pc := 10) C dL_taken_10 (i := (2 : Int)) (by decide) ?_
      refine aw_iload_n (pc := 11) C dL_taken_11 rfl rfl ?_
      obtain ⟨hp9, hw⟩ := hw
      refine aw_imul (pc := 12) C dL_taken_12 hp9 ?_
      obtain ⟨⟨k9, hp9⟩, hw⟩ := hw
      refine aw_iald (pc := 13) C dL_taken_13 hp9 ?_
      refine aw_iload_n (pc := 14) C dL_taken_14 rfl rfl ?_
      refine aw_icmp_ne (pc := 15) (tgt := 20) C dL_taken_15 (by decide) (fun hc9 => ?_) (fun hc9 => ?_)
      · have hw := hw.1 hc9
        obtain ⟨hp9, hw⟩ := hw
        refine aw_iincN (pc := 20) C dL_taken_20 (k := 1) (by decide) rfl (by rw [hml]; decide) hp9 (fun x3_20 e9 => ?_)
        have hw := hw x3_20 e9
        refine aw_goto (pc := 23) (tgt := 2) C dL_taken_23 (by decide) ?_
        obtain ⟨m9, hm9, hw⟩ := hw
        refine aw_sub [(0, vI a0), (1, vR a1), (2, vR a2), (3, vI x3_20)] ⟨rfl, rfl, rfl, rfl, trivial⟩ ?_
        exact ih_2 m9 hm9 _ _ hw
      · have hw := hw.2 hc9
        refine aw_iconst (pc := 18) C dL_taken_18 (i := (1 : Int)) (by decide) ?_
        obtain ⟨hp9, hw⟩ := hw
        exact aw_zret (pc := 19) C hr dL_taken_19 ⟨Nat.le_of_ble_eq_true rfl, Nat.le_of_ble_eq_true rfl⟩ hp9 ⟨_, rfl, hw⟩
  refine aw_sub [(0, vI a0), (1, vR a1), (2, vR a2), (3, vI (0 : Int))] ⟨rfl, rfl, rfl, rfl, trivial⟩ ?_
  exact L_2 n9 _ _ hi9
theorem dL_near_0 : decode cL_near 0 = .ok (.iconst 0, 1) := by decide +kernel
theorem dL_near_1 : decode cL_near 1 = .ok (.istore 6, 2) := by decide +kernel
theorem dL_near_3 : decode cL_near 3 = .ok (.iload 6, 2) := by decide +kernel
theorem dL_near_5 : decode cL_near 5 = .ok (.aload 4, 2) := by decide +kernel
theorem dL_near_7 : decode cL_near 7 = .ok (.iload_n 0, 1) := by decide +kernel
theorem dL_near_8 : decode cL_near 8 = .ok (.iconst 2, 1) := by decide +kernel
theorem dL_near_9 : decode cL_near 9 = .ok (.if_icmp .ne 7, 3) := by decide +kernel
theorem dL_near_12 : decode cL_near 12 = .ok (.iconst 1, 1) := by decide +kernel
theorem dL_near_13 : decode cL_near 13 = .ok (.goto 4, 3) := by decide +kernel
theorem dL_near_16 : decode cL_near 16 = .ok (.iconst 2, 1) := by decide +kernel
theorem dL_near_17 : decode cL_near 17 = .ok (.iaload, 1) := by decide +kernel
theorem dL_near_18 : decode cL_near 18 = .ok (.if_icmp .gt 155, 3) := by decide +kernel
theorem dL_near_21 : decode cL_near 21 = .ok (.iconst 0, 1) := by decide +kernel
theorem dL_near_22 : decode cL_near 22 = .ok (.istore 7, 2) := by decide +kernel
theorem dL_near_24 : decode cL_near 24 = .ok (.iload 7, 2) := by decide +kernel
theorem dL_near_26 : decode cL_near 26 = .ok (.aload_n 3, 1) := by decide +kernel
theorem dL_near_27 : decode cL_near 27 = .ok (.iconst 0, 1) := by decide +kernel
theorem dL_near_28 : decode cL_near 28 = .ok (.iaload, 1) := by decide +kernel
theorem dL_near_29 : decode cL_near 29 = .ok (.if_icmp .ge 138, 3) := by decide +kernel
theorem dL_near_32 : decode cL_near 32 = .ok (.iconst 0, 1) := by decide +kernel
theorem dL_near_33 : decode cL_near 33 = .ok (.istore 8, 2) := by decide +kernel
theorem dL_near_35 : decode cL_near 35 = .ok (.iload 8, 2) := by decide +kernel
theorem dL_near_37 : decode cL_near 37 = .ok (.aload_n 3, 1) := by decide +kernel
theorem dL_near_38 : decode cL_near 38 = .ok (.iconst 1, 1) := by decide +kernel
theorem dL_near_39 : decode cL_near 39 = .ok (.iaload, 1) := by decide +kernel
theorem dL_near_40 : decode cL_near 40 = .ok (.if_icmp .ge 121, 3) := by decide +kernel
theorem dL_near_43 : decode cL_near 43 = .ok (.aload 5, 2) := by decide +kernel
theorem dL_near_45 : decode cL_near 45 = .ok (.iconst 2, 1) := by decide +kernel
theorem dL_near_46 : decode cL_near 46 = .ok (.iload 7, 2) := by decide +kernel
theorem dL_near_48 : decode cL_near 48 = .ok (.imul, 1) := by decide +kernel
theorem dL_near_49 : decode cL_near 49 = .ok (.iaload, 1) := by decide +kernel
theorem dL_near_50 : decode cL_near 50 = .ok (.ifCond .ge 105, 3) := by decide +kernel
theorem dL_near_53 : decode cL_near 53 = .ok (.iload 7, 2) := by decide +kernel
theorem dL_near_55 : decode cL_near 55 = .ok (.iload 8, 2) := by decide +kernel
theorem dL_near_57 : decode cL_near 57 = .ok (.aload_n 1, 1) := by decide +kernel
theorem dL_near_58 : decode cL_near 58 = .ok (.aload_n 2, 1) := by decide +kernel
theorem dL_near_59 : decode cL_near 59 = .ok (.aload 4, 2) := by decide +kernel
theorem dL_near_61 : decode cL_near 61 = .ok (.invokestatic 14, 3) := by decide +kernel
theorem dL_near_64 : decode cL_near 64 = .ok (.iload 6, 2) := by decide +kernel
theorem dL_near_66 : decode cL_near 66 = .ok (.if_icmp .ne 89, 3) := by decide +kernel
theorem dL_near_69 : decode cL_near 69 = .ok (.iload 8, 2) := by decide +kernel
theorem dL_near_71 : decode cL_near 71 = .ok (.aload_n 3, 1) := by decide +kernel
theorem dL_near_72 : decode cL_near 72 = .ok (.aload 5, 2) := by decide +kernel
theorem dL_near_74 : decode cL_near 74 = .ok (.invokestatic 18, 3) := by decide +kernel
theorem dL_near_77 : decode cL_near 77 = .ok (.ifCond .ne 78, 3) := by decide +kernel
theorem dL_near_80 : decode cL_near 80 = .ok (.iload_n 0, 1) := by decide +kernel
theorem dL_near_81 : decode cL_near 81 = .ok (.iconst 2, 1) := by decide +kernel
theorem dL_near_82 : decode cL_near 82 = .ok (.if_icmp .ne 22, 3) := by decide +kernel
theorem dL_near_85 : decode cL_near 85 = .ok (.aload_n 1, 1) := by decide +kernel
theorem dL_near_86 : decode cL_near 86 = .ok (.iconst 2, 1) := by decide +kernel
theorem dL_near_87 : decode cL_near 87 = .ok (.iload 7, 2) := by decide +kernel
theorem dL_near_89 : decode cL_near 89 = .ok (.imul, 1) := by decide +kernel
theorem dL_near_90 : decode cL_near 90 = .ok (.iconst 1, 1) := by decide +kernel
theorem dL_near_91 : decode cL_near 91 = .ok (.iadd, 1) := by decide +kernel
theorem dL_near_92 : decode cL_near 92 = .ok (.iaload, 1) := by decide +kernel
theorem dL_near_93 : decode cL_near 93 = .ok (.aload_n 2, 1) := by decide +kernel
theorem dL_near_94 : decode cL_near 94 = .ok (.iconst 2, 1) := by decide +kernel
theorem dL_near_95 : decode cL_near 95 = .ok (.iload 8, 2) := by decide +kernel
theorem dL_near_97 : decode cL_near 97 = .ok (.imul, 1) := by decide +kernel
theorem dL_near_98 : decode cL_near 98 = .ok (.iconst 1, 1) := by decide +kernel
theorem dL_near_99 : decode cL_near 99 = .ok (.iadd, 1) := by decide +kernel
theorem dL_near_100 : decode cL_near 100 = .ok (.iaload, 1) := by decide +kernel
theorem dL_near_101 : decode cL_near 101 = .ok (.if_icmp .ne 54, 3) := by decide +kernel
theorem dL_near_104 : decode cL_near 104 = .ok (.aload 4, 2) := by decide +kernel
theorem dL_near_106 : decode cL_near 106 = .ok (.iconst 3, 1) := by decide +kernel
theorem dL_near_107 : decode cL_near 107 = .ok (.iaload, 1) := by decide +kernel
theorem dL_near_108 : decode cL_near 108 = .ok (.iconst 1, 1) := by decide +kernel
theorem dL_near_109 : decode cL_near 109 = .ok (.if_icmp .ne 27, 3) := by decide +kernel
theorem dL_near_112 : decode cL_near 112 = .ok (.aload_n 1, 1) := by decide +kernel
theorem dL_near_113 : decode cL_near 113 = .ok (.iconst 2, 1) := by decide +kernel
theorem dL_near_114 : decode cL_near 114 = .ok (.iload 7, 2) := by decide +kernel
theorem dL_near_116 : decode cL_near 116 = .ok (.imul, 1) := by decide +kernel
theorem dL_near_117 : decode cL_near 117 = .ok (.iaload, 1) := by decide +kernel
theorem dL_near_118 : decode cL_near 118 = .ok (.bipush 16, 2) := by decide +kernel
theorem dL_near_120 : decode cL_near 120 = .ok (.idiv, 1) := by decide +kernel
theorem dL_near_121 : decode cL_near 121 = .ok (.aload_n 2, 1) := by decide +kernel
theorem dL_near_122 : decode cL_near 122 = .ok (.iconst 2, 1) := by decide +kernel
theorem dL_near_123 : decode cL_near 123 = .ok (.iload 8, 2) := by decide +kernel
theorem dL_near_125 : decode cL_near 125 = .ok (.imul, 1) := by decide +kernel
theorem dL_near_126 : decode cL_near 126 = .ok (.iaload, 1) := by decide +kernel
theorem dL_near_127 : decode cL_near 127 = .ok (.bipush 16, 2) := by decide +kernel
theorem dL_near_129 : decode cL_near 129 = .ok (.idiv, 1) := by decide +kernel
theorem dL_near_130 : decode cL_near 130 = .ok (.if_icmp .eq 6, 3) := by decide +kernel
theorem dL_near_133 : decode cL_near 133 = .ok (.goto 22, 3) := by decide +kernel
theorem dL_near_136 : decode cL_near 136 = .ok (.aload 5, 2) := by decide +kernel
theorem dL_near_138 : decode cL_near 138 = .ok (.iconst 2, 1) := by decide +kernel
theorem dL_near_139 : decode cL_near 139 = .ok (.iload 7, 2) := by decide +kernel
theorem dL_near_141 : decode cL_near 141 = .ok (.imul, 1) := by decide +kernel
theorem dL_near_142 : decode cL_near 142 = .ok (.iload 8, 2) := by decide +kernel
theorem dL_near_144 : decode cL_near 144 = .ok (.iastore, 1) := by decide +kernel
theorem dL_near_145 : decode cL_near 145 = .ok (.aload 5, 2) := by decide +kernel
theorem dL_near_147 : decode cL_near 147 = .ok (.iconst 2, 1) := by decide +kernel
theorem dL_near_148 : decode cL_near 148 = .ok (.iload 7, 2) := by decide +kernel
theorem dL_near_150 : decode cL_near 150 = .ok (.imul, 1) := by decide +kernel
theorem dL_near_151 : decode cL_near 151 = .ok (.iconst 1, 1) := by decide +kernel
theorem dL_near_152 : decode cL_near 152 = .ok (.iadd, 1) := by decide +kernel
theorem dL_near_153 : decode cL_near 153 = .ok (.iload_n 0, 1) := by decide +kernel
theorem dL_near_154 : decode cL_near 154 = .ok (.iastore, 1) := by decide +kernel
theorem dL_near_155 : decode cL_near 155 = .ok (.iinc 8 1, 3) := by decide +kernel
theorem dL_near_158 : decode cL_near 158 = .ok (.goto (-123), 3) := by decide +kernel
theorem dL_near_161 : decode cL_near 161 = .ok (.iinc 7 1, 3) := by decide +kernel
theorem dL_near_164 : decode cL_near 164 = .ok (.goto (-140), 3) := by decide +kernel
theorem dL_near_167 : decode cL_near 167 = .ok (.iinc 6 1, 3) := by decide +kernel
theorem dL_near_170 : decode cL_near 170 = .ok (.goto (-167), 3) := by decide +kernel
theorem dL_near_173 : decode cL_near 173 = .ok (.return_, 1) := by decide +kernel
theorem pd_L_near : (parseMethodDescriptor yL_near.desc).map (fun d => d.parameters.length) = some 6 := by decide +kernel
def w_L_near (zz : Nat → Nat) (a0 : Int) (a1 : Nat) (a2 : Nat) (a3 : Nat) (a4 : Nat) (a5 : Nat) (h : AH) (Q : AH → Prop) : Prop := ∃ I_3 : Nat → Int → AH → Prop, (∃ n, I_3 n (0 : Int) h) ∧ ∀ (n_3 : Nat) (x6_3 : Int) (h_3 : AH), I_3 n_3 x6_3 h_3 → (jn (fun (t2_17 : Int) (h_17 : AH) => okI h_17 a4 t2_17 ∧ (((haI h_17 a4 t2_17) < x6_3) → Q h_17) ∧ ((¬ ((haI h_17 a4 t2_17) < x6_3)) → ∃ I_24 : Nat → Int → AH → Prop, (∃ n, I_24 n (0 : Int) h_17) ∧ ∀ (n_24 : Nat) (x7_24 : Int) (h_24 : AH), I_24 n_24 x7_24 h_24 → (okI h_24 a3 (0 : Int) ∧ (((haI h_24 a3 (0 : Int)) ≤ x7_24) → inR (x6_3 + 1) ∧ ∀ x6_167 : Int, x6_167 = (x6_3 + 1) → ∃ m, m < n_3 ∧ I_3 m x6_167 h_24) ∧ ((¬ ((haI h_24 a3 (0 : Int)) ≤ x7_24)) → ∃ I_35 : Nat → Int → AH → Prop, (∃ n, I_35 n (0 : Int) h_24) ∧ ∀ (n_35 : Nat) (x8_35 : Int) (h_35 : AH), I_35 n_35 x8_35 h_35 → (okI h_35 a3 (1 : Int) ∧ (((haI h_35 a3 (1 : Int)) ≤ x8_35) → inR (x7_24 + 1) ∧ ∀ x7_161 : Int, x7_161 = (x7_24 + 1) → ∃ m, m < n_24 ∧ I_24 m x7_161 h_35) ∧ ((¬ ((haI h_35 a3 (1 : Int)) ≤ x8_35)) → inR ((2 : Int) * x7_24) ∧ okI h_35 a5 ((2 : Int) * x7_24) ∧ jn (fun  (h_155 : AH) => inR (x8_35 + 1) ∧ ∀ x8_155 : Int, x8_155 = (x8_35 + 1) → ∃ m, m < n_35 ∧ I_35 m x8_155 h_155) (fun k_155 : AH → Prop => ((0 ≤ (haI h_35 a5 ((2 : Int) * x7_24))) → k_155  h_35) ∧ ((¬ (0 ≤ (haI h_35 a5 ((2 : Int) * x7_24)))) → w_L_far zz x7_24 x8_35 a1 a2 a4 h_35 (fun (r61 : Int) (h61 : AH) => ((¬ r61 = x6_3) → k_155  h61) ∧ ((r61 = x6_3) → w_L_taken zz x8_35 a3 a5 h61 (fun (r74 : Int) (h74 : AH) => ((¬ r74 = 0) → k_155  h74) ∧ ((r74 = 0) → jn (fun  (h_104 : AH) => okI h_104 a4 (3 : Int) ∧ jn (fun  (h_136 : AH) => inR ((2 : Int) * x7_24) ∧ okW h_136 a5 ((2 : Int) * x7_24) ∧ ∀ h144 : AH, h144 = saI h_136 a5 (u1 (haI h_136 a5) ((2 : Int) * x7_24) x8_35) → inR ((2 : Int) * x7_24) ∧ inR (((2 : Int) * x7_24) + (1 : Int)) ∧ okW h144 a5 (((2 : Int) * x7_24) + (1 : Int)) ∧ ∀ h154 : AH, h154 = saI h144 a5 (u1 (haI h144 a5) (((2 : Int) * x7_24) + (1 : Int)) a0) → k_155  h154) (fun k_136 : AH → Prop => ((¬ (haI h_104 a4 (3 : Int)) = (1 : Int)) → k_136  h_104) ∧ (((haI h_104 a4 (3 : Int)) = (1 : Int)) → inR ((2 : Int) * x7_24) ∧ okI h_104 a1 ((2 : Int) * x7_24) ∧ (0 ≤ (haI h_104 a1 ((2 : Int) * x7_24)) ∧ 0 < (16 : Int)) ∧ inR ((2 : Int) * x8_35) ∧ okI h_104 a2 ((2 : Int) * x8_35) ∧ (0 ≤ (haI h_104 a2 ((2 : Int) * x8_35)) ∧ 0 < (16 : Int)) ∧ ((((haI h_104 a1 ((2 : Int) * x7_24)) / (16 : Int)) = ((haI h_104 a2 ((2 : Int) * x8_35)) / (16 : Int))) → k_136  h_104) ∧ ((¬ (((haI h_104 a1 ((2 : Int) * x7_24)) / (16 : Int)) = ((haI h_104 a2 ((2 : Int) * x8_35)) / (16 : Int)))) → k_155  h_104)))) (fun k_104 : AH → Prop => ((¬ a0 = (2 : Int)) → k_104  h74) ∧ ((a0 = (2 : Int)) → inR ((2 : Int) * x7_24) ∧ inR (((2 : Int) * x7_24) + (1 : Int)) ∧ okI h74 a1 (((2 : Int) * x7_24) + (1 : Int)) ∧ inR ((2 : Int) * x8_35) ∧ inR (((2 : Int) * x8_35) + (1 : Int)) ∧ okI h74 a2 (((2 : Int) * x8_35) + (1 : Int)) ∧ ((¬ (haI h74 a1 (((2 : Int) * x7_24) + (1 : Int))) = (haI h74 a2 (((2 : Int) * x8_35) + (1 : Int)))) → k_155  h74) ∧ (((haI h74 a1 (((2 : Int) * x7_24) + (1 : Int))) = (haI h74 a2 (((2 : Int) * x8_35) + (1 : Int)))) → k_104  h74))))))))))))))) (fun k_17 : Int → AH → Prop => ((¬ a0 = (2 : Int)) → k_17 (2 : Int) h_3) ∧ ((a0 = (2 : Int)) → k_17 (1 : Int) h_3)))
set_option maxRecDepth 100000 in
set_option maxHeartbeats 4000000 in
theorem met_L_near (G : GG) (l : Launch) : ∀ (As : List Value) (a0 : Int) (a1 : Nat) (a2 : Nat) (a3 : Nat) (a4 : Nat) (a5 : Nat) (h : AH) (Q : AH → Prop), As.map ab = List.map some ([vI a0, vR a1, vR a2, vR a3, vR a4, vR a5] : List AV) → w_L_near G.2.2 a0 a1 a2 a3 a4 a5 h Q → Met l yL_near (.code yL_near cL_near 9 none :: xTb) ({ frames := 2, cells := 0, slots := 0, locals := 44 } : Room) (PcA G As h) (QG G (oV Q)) 0 0 (frA G) := by
  intro As a0 a1 a2 a3 a4 a5 h Q hA hw
  refine met_of hA (by decide) (Nat.le_of_ble_eq_true rfl) (fun p e s m args below meth c C hml hr hnm => ?_)
  unfold w_L_near at hw
  refine aw_iconst (pc := 0) C dL_near_0 (i := (0 : Int)) (by decide) ?_
  refine aw_istore (pc := 1) C dL_near_1 (by rw [hml]; decide) ?_
  obtain ⟨I_3, ⟨n9, hi9⟩, hst9⟩ := hw
  have L_3 : ∀ (n_3 : Nat) (x6_3 : Int) (h_3 : AH), I_3 n_3 x6_3 h_3 → AW G p l e ({ frames := 2, cells := 0, slots := 0, locals := 44 } : Room) s m args below meth c 0 0 (MQ below (QG G (oV Q)) args s 0 0 (frA G)) 3 (eOf [(0, vI a0), (1, vR a1), (2, vR a2), (3, vR a3), (4, vR a4), (5, vR a5), (6, vI x6_3)]) [] h_3 := by
    intro n_3
    induction n_3 using Nat.strongRecOn with
    | _ n_3 ih_3 =>
    intro x6_3 h_3 hi9
    have hw := hst9 n_3 x6_3 h_3 hi9
    refine aw_iload (pc := 3) C dL_near_3 rfl ?_
    refine aw_aload (pc := 5) C dL_near_5 rfl ?_
    refine aw_iload_n (pc := 7) C dL_near_7 rfl rfl ?_
    refine aw_iconst (pc := 8) C dL_near_8 (i := (2 : Int)) (by decide) ?_
    obtain ⟨k_17, hk_17, hw⟩ := jn_out hw
    have J_17 : ∀ (t2_17 : Int) (h_17 : AH), k_17 t2_17 h_17 → AW G p l e ({ frames := 2, cells := 0, slots := 0, locals := 44 } : Room) s m args below meth c 0 0 (MQ below (QG G (oV Q)) args s 0 0 (frA G)) 17 (eOf [(0, vI a0), (1, vR a1), (2, vR a2), (3, vR a3), (4, vR a4), (5, vR a5), (6, vI x6_3)]) [vI t2_17, vR a4, vI x6_3] h_17 := by
      intro t2_17 h_17 hw
      rw [hk_17] at hw
      obtain ⟨⟨k9, hp9⟩, hw⟩ := hw
      refine aw_iald (pc := 17) C dL_near_17 hp9 ?_
      refine aw_icmp_gt (pc := 18) (tgt := 173) C dL_near_18 (by decide) (fun hc9 => ?_) (fun hc9 => ?_)
      · have hw := hw.1 hc9
        exact aw_vret (pc := 173) C hr dL_near_173 ⟨Nat.le_of_ble_eq_true rfl, Nat.le_of_ble_eq_true rfl⟩ ⟨rfl, hw⟩
      · have hw := hw.2 hc9
        refine aw_iconst (pc := 21) C dL_near_21 (i := (0 : Int)) (by decide) ?_
        refine aw_istore (pc := 22) C dL_near_22 (by rw [hml]; decide) ?_
        obtain ⟨I_24, ⟨n9, hi9⟩, hst9⟩ := hw
        have L_24 : ∀ (n_24 : Nat) (x7_24 : Int) (h_24 : AH), I_24 n_24 x7_24 h_24 → AW G p l e ({ frames := 2, cells := 0, slots := 0, locals := 44 } : Room) s m args below meth c 0 0 (MQ below (QG G (oV Q)) args s 0 0 (frA G)) 24 (eOf [(0, vI a0), (1, vR a1), (2, vR a2), (3, vR a3), (4, vR a4), (5, vR a5), (6, vI x6_3), (7, vI x7_24)]) [] h_24 := by
          intro n_24
          induction n_24 using Nat.strongRecOn with
          | _ n_24 ih_24 =>
          intro x7_24 h_24 hi9
          have hw := hst9 n_24 x7_24 h_24 hi9
          refine aw_iload (pc := 24) C dL_near_24 rfl ?_
          refine aw_aload_n (pc := 26) C dL_near_26 rfl rfl ?_
          refine aw_iconst (pc := 27) C dL_near_27 (i := (0 : Int)) (by decide) ?_
          obtain ⟨⟨k9, hp9⟩, hw⟩ := hw
          refine aw_iald (pc := 28) C dL_near_28 hp9 ?_
          refine aw_icmp_ge (pc := 29) (tgt := 167) C dL_near_29 (by decide) (fun hc9 => ?_) (fun hc9 => ?_)
          · have hw := hw.1 hc9
            obtain ⟨hp9, hw⟩ := hw
            refine aw_iincN (pc := 167) C dL_near_167 (k := 1) (by decide) rfl (by rw [hml]; decide) hp9 (fun x6_167 e9 => ?_)
            have hw := hw x6_167 e9
            refine aw_goto (pc := 170) (tgt := 3) C dL_near_170 (by decide) ?_
            obtain ⟨m9, hm9, hw⟩ := hw
            refine aw_sub [(0, vI a0), (1, vR a1), (2, vR a2), (3, vR a3), (4, vR a4), (5, vR a5), (6, vI x6_167)] ⟨rfl, rfl, rfl, rfl, rfl, rfl, rfl, trivial⟩ ?_
            exact ih_3 m9 hm9 _ _ hw
          · have hw := hw.2 hc9
            refine aw_iconst (pc := 32) C dL_near_32 (i := (0 : Int)) (by decide) ?_
            refine aw_istore (pc := 33) C dL_near_33 (by rw [hml]; decide) ?_
            obtain ⟨I_35, ⟨n9, hi9⟩, hst9⟩ := hw
            have L_35 : ∀ (n_35 : Nat) (x8_35 : Int) (h_35 : AH), I_35 n_35 x8_35 h_35 → AW G p l e ({ frames := 2, cells := 0, slots := 0, locals := 44 } : Room) s m args below meth c 0 0 (MQ below (QG G (oV Q)) args s 0 0 (frA G)) 35 (eOf [(0, vI a0), (1, vR a1), (2, vR a2), (3, vR a3), (4, vR a4), (5, vR a5), (6, vI x6_3), (7, vI x7_24), (8, vI x8_35)]) [] h_35 := by
              intro n_35
              induction n_35 using Nat.strongRecOn with
              | _ n_35 ih_35 =>
              intro x8_35 h_35 hi9
              have hw := hst9 n_35 x8_35 h_35 hi9
              refine aw_iload (pc := 35) C dL_near_35 rfl ?_
              refine aw_aload_n (pc := 37) C dL_near_37 rfl rfl ?_
              refine aw_iconst (pc := 38) C dL_near_38 (i := (1 : Int)) (by decide) ?_
              obtain ⟨⟨k9, hp9⟩, hw⟩ := hw
              refine aw_iald (pc := 39) C dL_near_39 hp9 ?_
              refine aw_icmp_ge (pc := 40) (tgt := 161) C dL_near_40 (by decide) (fun hc9 => ?_) (fun hc9 => ?_)
              · have hw := hw.1 hc9
                obtain ⟨hp9, hw⟩ := hw
                refine aw_iincN (pc := 161) C dL_near_161 (k := 1) (by decide) rfl (by rw [hml]; decide) hp9 (fun x7_161 e9 => ?_)
                have hw := hw x7_161 e9
                refine aw_goto (pc := 164) (tgt := 24) C dL_near_164 (by decide) ?_
                obtain ⟨m9, hm9, hw⟩ := hw
                refine aw_sub [(0, vI a0), (1, vR a1), (2, vR a2), (3, vR a3), (4, vR a4), (5, vR a5), (6, vI x6_3), (7, vI x7_161)] ⟨rfl, rfl, rfl, rfl, rfl, rfl, rfl, rfl, trivial⟩ ?_
                exact ih_24 m9 hm9 _ _ hw
              · have hw := hw.2 hc9
                refine aw_aload (pc := 43) C dL_near_43 rfl ?_
                refine aw_iconst (pc := 45) C dL_near_45 (i := (2 : Int)) (by decide) ?_
                refine aw_iload (pc := 46) C dL_near_46 rfl ?_
                obtain ⟨hp9, hw⟩ := hw
                refine aw_imul (pc := 48) C dL_near_48 hp9 ?_
                obtain ⟨⟨k9, hp9⟩, hw⟩ := hw
                refine aw_iald (pc := 49) C dL_near_49 hp9 ?_
                obtain ⟨k_155, hk_155, hw⟩ := jn_out hw
                have J_155 : ∀  (h_155 : AH), k_155  h_155 → AW G p l e ({ frames := 2, cells := 0, slots := 0, locals := 44 } : Room) s m args below meth c 0 0 (MQ below (QG G (oV Q)) args s 0 0 (frA G)) 155 (eOf [(0, vI a0), (1, vR a1), (2, vR a2), (3, vR a3), (4, vR a4), (5, vR a5), (6, vI x6_3), (7, vI x7_24), (8, vI x8_35)]) [] h_155 := by
                  intro  h_155 hw
                  rw [hk_155] at hw
                  obtain ⟨hp9, hw⟩ := hw
                  refine aw_iincN (pc := 155) C dL_near_155 (k := 1) (by decide) rfl (by rw [hml]; decide) hp9 (fun x8_155 e9 => ?_)
                  have hw := hw x8_155 e9
                  refine aw_goto (pc := 158) (tgt := 35) C dL_near_158 (by decide) ?_
                  obtain ⟨m9, hm9, hw⟩ := hw
                  refine aw_sub [(0, vI a0), (1, vR a1), (2, vR a2), (3, vR a3), (4, vR a4), (5, vR a5), (6, vI x6_3), (7, vI x7_24), (8, vI x8_155)] ⟨rfl, rfl, rfl, rfl, rfl, rfl, rfl, rfl, rfl, trivial⟩ ?_
                  exact ih_35 m9 hm9 _ _ hw
                refine aw_if_ge (pc := 50) (tgt := 155) C dL_near_50 (by decide) (fun hc9 => ?_) (fun hc9 => ?_)
                · have hw := hw.1 hc9
                  refine aw_sub [(0, vI a0), (1, vR a1), (2, vR a2), (3, vR a3), (4, vR a4), (5, vR a5), (6, vI x6_3), (7, vI x7_24), (8, vI x8_35)] ⟨rfl, rfl, rfl, rfl, rfl, rfl, rfl, rfl, rfl, trivial⟩ ?_
                  exact J_155  _ hw
                · have hw := hw.2 hc9
                  refine aw_iload (pc := 53) C dL_near_53 rfl ?_
                  refine aw_iload (pc := 55) C dL_near_55 rfl ?_
                  refine aw_aload_n (pc := 57) C dL_near_57 rfl rfl ?_
                  refine aw_aload_n (pc := 58) C dL_near_58 rfl rfl ?_
                  refine aw_aload (pc := 59) C dL_near_59 rfl ?_
                  refine aw_callS (pc := 61) (as := [vI x7_24, vI x8_35, vR a1, vR a2, vR a4]) C (fun As hA => met_L_far G l As x7_24 x8_35 a1 a2 a4 _ _ hA hw) tw462 tw463 tw0 tw464 ⟨rfl, rfl⟩ ⟨by decide, by decide, pd_L_far⟩ ⟨Nat.le_of_ble_eq_true rfl, Nat.le_of_ble_eq_true rfl⟩ ⟨Nat.zero_le _, Nat.zero_le _⟩ (Nat.le_of_ble_eq_true rfl) dL_near_61 rfl (fun v9 h61 hq9 => ?_)
                  obtain ⟨r61, rfl, hw⟩ := hq9
                  refine aw_iload (pc := 64) C dL_near_64 rfl ?_
                  refine aw_icmp_ne (pc := 66) (tgt := 155) C dL_near_66 (by decide) (fun hc9 => ?_) (fun hc9 => ?_)
                  · have hw := hw.1 hc9
                    refine aw_sub [(0, vI a0), (1, vR a1), (2, vR a2), (3, vR a3), (4, vR a4), (5, vR a5), (6, vI x6_3), (7, vI x7_24), (8, vI x8_35)] ⟨rfl, rfl, rfl, rfl, rfl, rfl, rfl, rfl, rfl, trivial⟩ ?_
                    exact J_155  _ hw
                  · have hw := hw.2 hc9
                    refine aw_iload (pc := 69) C dL_near_69 rfl ?_
                    refine aw_aload_n (pc := 71) C dL_near_71 rfl rfl ?_
                    refine aw_aload (pc := 72) C dL_near_72 rfl ?_
                    refine aw_callS (pc := 74) (as := [vI x8_35, vR a3, vR a5]) C (fun As hA => met_L_taken G l As x8_35 a3 a5 _ _ hA hw) tw468 tw469 tw0 tw470 ⟨rfl, rfl⟩ ⟨by decide, by decide, pd_L_taken⟩ ⟨Nat.le_of_ble_eq_true rfl, Nat.le_of_ble_eq_true rfl⟩ ⟨Nat.zero_le _, Nat.zero_le _⟩ (Nat.le_of_ble_eq_true rfl) dL_near_74 rfl (fun v9 h74 hq9 => ?_)
                    obtain ⟨r74, rfl, hw⟩ := hq9
                    refine aw_if_ne (pc := 77) (tgt := 155) C dL_near_77 (by decide) (fun hc9 => ?_) (fun hc9 => ?_)
                    · have hw := hw.1 hc9
                      refine aw_sub [(0, vI a0), (1, vR a1), (2, vR a2), (3, vR a3), (4, vR a4), (5, vR a5), (6, vI x6_3), (7, vI x7_24), (8, vI x8_35)] ⟨rfl, rfl, rfl, rfl, rfl, rfl, rfl, rfl, rfl, trivial⟩ ?_
                      exact J_155  _ hw
                    · have hw := hw.2 hc9
                      refine aw_iload_n (pc := 80) C dL_near_80 rfl rfl ?_
                      refine aw_iconst (pc := 81) C dL_near_81 (i := (2 : Int)) (by decide) ?_
                      obtain ⟨k_104, hk_104, hw⟩ := jn_out hw
                      have J_104 : ∀  (h_104 : AH), k_104  h_104 → AW G p l e ({ frames := 2, cells := 0, slots := 0, locals := 44 } : Room) s m args below meth c 0 0 (MQ below (QG G (oV Q)) args s 0 0 (frA G)) 104 (eOf [(0, vI a0), (1, vR a1), (2, vR a2), (3, vR a3), (4, vR a4), (5, vR a5), (6, vI x6_3), (7, vI x7_24), (8, vI x8_35)]) [] h_104 := by
                        intro  h_104 hw
                        rw [hk_104] at hw
                        refine aw_aload (pc := 104) C dL_near_104 rfl ?_
                        refine aw_iconst (pc := 106) C dL_near_106 (i := (3 : Int)) (by decide) ?_
                        obtain ⟨⟨k9, hp9⟩, hw⟩ := hw
                        refine aw_iald (pc := 107) C dL_near_107 hp9 ?_
                        refine aw_iconst (pc := 108) C dL_near_108 (i := (1 : Int)) (by decide) ?_
                        obtain ⟨k_136, hk_136, hw⟩ := jn_out hw
                        have J_136 : ∀  (h_136 : AH), k_136  h_136 → AW G p l e ({ frames := 2, cells := 0, slots := 0, locals := 44 } : Room) s m args below meth c 0 0 (MQ below (QG G (oV Q)) args s 0 0 (frA G)) 136 (eOf [(0, vI a0), (1, vR a1), (2, vR a2), (3, vR a3), (4, vR a4), (5, vR a5), (6, vI x6_3), (7, vI x7_24), (8, vI x8_35)]) [] h_136 := by
                          intro  h_136 hw
                          rw [hk_136] at hw
                          refine aw_aload (pc := 136) C dL_near_136 rfl ?_
                          refine aw_iconst (pc := 138) C dL_near_138 (i := (2 : Int)) (by decide) ?_
                          refine aw_iload (pc := 139) C dL_near_139 rfl ?_
                          obtain ⟨hp9, hw⟩ := hw
                          refine aw_imul (pc := 141) C dL_near_141 hp9 ?_
                          refine aw_iload (pc := 142) C dL_near_142 rfl ?_
                          obtain ⟨⟨k9, hp9⟩, hw⟩ := hw
                          refine aw_iast (pc := 144) C dL_near_144 hp9 (aw_nmH (fun h144 e9 => ?_))
                          have hw := hw h144 e9
                          refine aw_aload (pc := 145) C dL_near_145 rfl ?_
                          refine aw_iconst (pc := 147) C dL_near_147 (i := (2 : Int)) (by decide) ?_
                          refine aw_iload (pc := 148) C dL_near_148 rfl ?_
                          obtain ⟨hp9, hw⟩ := hw
                          refine aw_imul (pc := 150) C dL_near_150 hp9 ?_
                          refine aw_iconst (pc := 151) C dL_near_151 (i := (1 : Int)) (by decide) ?_
                          obtain ⟨hp9, hw⟩ := hw
                          refine aw_iadd (pc := 152) C dL_near_152 hp9 ?_
                          refine aw_iload_n (pc := 153) C dL_near_153 rfl rfl ?_
                          obtain ⟨⟨k9, hp9⟩, hw⟩ := hw
                          refine aw_iast (pc := 154) C dL_near_154 hp9 (aw_nmH (fun h154 e9 => ?_))
                          have hw := hw h154 e9
                          refine aw_sub [(0, vI a0), (1, vR a1), (2, vR a2), (3, vR a3), (4, vR a4), (5, vR a5), (6, vI x6_3), (7, vI x7_24), (8, vI x8_35)] ⟨rfl, rfl, rfl, rfl, rfl, rfl, rfl, rfl, rfl, trivial⟩ ?_
                          exact J_155  _ hw
                        refine aw_icmp_ne (pc := 109) (tgt := 136) C dL_near_109 (by decide) (fun hc9 => ?_) (fun hc9 => ?_)
                        · have hw := hw.1 hc9
                          refine aw_sub [(0, vI a0), (1, vR a1), (2, vR a2), (3, vR a3), (4, vR a4), (5, vR a5), (6, vI x6_3), (7, vI x7_24), (8, vI x8_35)] ⟨rfl, rfl, rfl, rfl, rfl, rfl, rfl, rfl, rfl, trivial⟩ ?_
                          exact J_136  _ hw
                        · have hw := hw.2 hc9
                          refine aw_aload_n (pc := 112) C dL_near_112 rfl rfl ?_
                          refine aw_iconst (pc := 113) C dL_near_113 (i := (2 : Int)) (by decide) ?_
                          refine aw_iload (pc := 114) C dL_near_114 rfl ?_
                          obtain ⟨hp9, hw⟩ := hw
                          refine aw_imul (pc := 116) C dL_near_116 hp9 ?_
                          obtain ⟨⟨k9, hp9⟩, hw⟩ := hw
                          refine aw_iald (pc := 117) C dL_near_117 hp9 ?_
                          refine aw_bipush (pc := 118) C dL_near_118 (i := (16 : Int)) (by decide) ?_
                          obtain ⟨hp9, hw⟩ := hw
                          refine aw_idiv (pc := 120) C dL_near_120 hp9 ?_
                          refine aw_aload_n (pc := 121) C dL_near_121 rfl rfl ?_
                          refine aw_iconst (pc := 122) C dL_near_122 (i := (2 : Int)) (by decide) ?_
                          refine aw_iload (pc := 123) C dL_near_123 rfl ?_
                          obtain ⟨hp9, hw⟩ := hw
                          refine aw_imul (pc := 125) C dL_near_125 hp9 ?_
                          obtain ⟨⟨k9, hp9⟩, hw⟩ := hw
                          refine aw_iald (pc := 126) C dL_near_126 hp9 ?_
                          refine aw_bipush (pc := 127) C dL_near_127 (i := (16 : Int)) (by decide) ?_
                          obtain ⟨hp9, hw⟩ := hw
                          refine aw_idiv (pc := 129) C dL_near_129 hp9 ?_
                          refine aw_icmp_eq (pc := 130) (tgt := 136) C dL_near_130 (by decide) (fun hc9 => ?_) (fun hc9 => ?_)
                          · have hw := hw.1 hc9
                            refine aw_sub [(0, vI a0), (1, vR a1), (2, vR a2), (3, vR a3), (4, vR a4), (5, vR a5), (6, vI x6_3), (7, vI x7_24), (8, vI x8_35)] ⟨rfl, rfl, rfl, rfl, rfl, rfl, rfl, rfl, rfl, trivial⟩ ?_
                            exact J_136  _ hw
                          · have hw := hw.2 hc9
                            refine aw_goto (pc := 133) (tgt := 155) C dL_near_133 (by decide) ?_
                            refine aw_sub [(0, vI a0), (1, vR a1), (2, vR a2), (3, vR a3), (4, vR a4), (5, vR a5), (6, vI x6_3), (7, vI x7_24), (8, vI x8_35)] ⟨rfl, rfl, rfl, rfl, rfl, rfl, rfl, rfl, rfl, trivial⟩ ?_
                            exact J_155  _ hw
                      refine aw_icmp_ne (pc := 82) (tgt := 104) C dL_near_82 (by decide) (fun hc9 => ?_) (fun hc9 => ?_)
                      · have hw := hw.1 hc9
                        refine aw_sub [(0, vI a0), (1, vR a1), (2, vR a2), (3, vR a3), (4, vR a4), (5, vR a5), (6, vI x6_3), (7, vI x7_24), (8, vI x8_35)] ⟨rfl, rfl, rfl, rfl, rfl, rfl, rfl, rfl, rfl, trivial⟩ ?_
                        exact J_104  _ hw
                      · have hw := hw.2 hc9
                        refine aw_aload_n (pc := 85) C dL_near_85 rfl rfl ?_
                        refine aw_iconst (pc := 86) C dL_near_86 (i := (2 : Int)) (by decide) ?_
                        refine aw_iload (pc := 87) C dL_near_87 rfl ?_
                        obtain ⟨hp9, hw⟩ := hw
                        refine aw_imul (pc := 89) C dL_near_89 hp9 ?_
                        refine aw_iconst (pc := 90) C dL_near_90 (i := (1 : Int)) (by decide) ?_
                        obtain ⟨hp9, hw⟩ := hw
                        refine aw_iadd (pc := 91) C dL_near_91 hp9 ?_
                        obtain ⟨⟨k9, hp9⟩, hw⟩ := hw
                        refine aw_iald (pc := 92) C dL_near_92 hp9 ?_
                        refine aw_aload_n (pc := 93) C dL_near_93 rfl rfl ?_
                        refine aw_iconst (pc := 94) C dL_near_94 (i := (2 : Int)) (by decide) ?_
                        refine aw_iload (pc := 95) C dL_near_95 rfl ?_
                        obtain ⟨hp9, hw⟩ := hw
                        refine aw_imul (pc := 97) C dL_near_97 hp9 ?_
                        refine aw_iconst (pc := 98) C dL_near_98 (i := (1 : Int)) (by decide) ?_
                        obtain ⟨hp9, hw⟩ := hw
                        refine aw_iadd (pc := 99) C dL_near_99 hp9 ?_
                        obtain ⟨⟨k9, hp9⟩, hw⟩ := hw
                        refine aw_iald (pc := 100) C dL_near_100 hp9 ?_
                        refine aw_icmp_ne (pc := 101) (tgt := 155) C dL_near_101 (by decide) (fun hc9 => ?_) (fun hc9 => ?_)
                        · have hw := hw.1 hc9
                          refine aw_sub [(0, vI a0), (1, vR a1), (2, vR a2), (3, vR a3), (4, vR a4), (5, vR a5), (6, vI x6_3), (7, vI x7_24), (8, vI x8_35)] ⟨rfl, rfl, rfl, rfl, rfl, rfl, rfl, rfl, rfl, trivial⟩ ?_
                          exact J_155  _ hw
                        · have hw := hw.2 hc9
                          refine aw_sub [(0, vI a0), (1, vR a1), (2, vR a2), (3, vR a3), (4, vR a4), (5, vR a5), (6, vI x6_3), (7, vI x7_24), (8, vI x8_35)] ⟨rfl, rfl, rfl, rfl, rfl, rfl, rfl, rfl, rfl, trivial⟩ ?_
                          exact J_104  _ hw
            refine aw_sub [(0, vI a0), (1, vR a1), (2, vR a2), (3, vR a3), (4, vR a4), (5, vR a5), (6, vI x6_3), (7, vI x7_24), (8, vI (0 : Int))] ⟨rfl, rfl, rfl, rfl, rfl, rfl, rfl, rfl, rfl, trivial⟩ ?_
            exact L_35 n9 _ _ hi9
        refine aw_sub [(0, vI a0), (1, vR a1), (2, vR a2), (3, vR a3), (4, vR a4), (5, vR a5), (6, vI x6_3), (7, vI (0 : Int))] ⟨rfl, rfl, rfl, rfl, rfl, rfl, rfl, rfl, trivial⟩ ?_
        exact L_24 n9 _ _ hi9
    refine aw_icmp_ne (pc := 9) (tgt := 16) C dL_near_9 (by decide) (fun hc9 => ?_) (fun hc9 => ?_)
    · have hw := hw.1 hc9
      refine aw_iconst (pc := 16) C dL_near_16 (i := (2 : Int)) (by decide) ?_
      refine aw_sub [(0, vI a0), (1, vR a1), (2, vR a2), (3, vR a3), (4, vR a4), (5, vR a5), (6, vI x6_3)] ⟨rfl, rfl, rfl, rfl, rfl, rfl, rfl, trivial⟩ ?_
      exact J_17 _ _ hw
    · have hw := hw.2 hc9
      refine aw_iconst (pc := 12) C dL_near_12 (i := (1 : Int)) (by decide) ?_
      refine aw_goto (pc := 13) (tgt := 17) C dL_near_13 (by decide) ?_
      refine aw_sub [(0, vI a0), (1, vR a1), (2, vR a2), (3, vR a3), (4, vR a4), (5, vR a5), (6, vI x6_3)] ⟨rfl, rfl, rfl, rfl, rfl, rfl, rfl, trivial⟩ ?_
      exact J_17 _ _ hw
  refine aw_sub [(0, vI a0), (1, vR a1), (2, vR a2), (3, vR a3), (4, vR a4), (5, vR a5), (6, vI (0 : Int))] ⟨rfl, rfl, rfl, rfl, rfl, rfl, rfl, trivial⟩ ?_
  exact L_3 n9 _ _ hi9
theorem dL_pairs_0 : decode cL_pairs 0 = .ok (.iconst 0, 1) := by decide +kernel
theorem dL_pairs_1 : decode cL_pairs 1 = .ok (.istore 5, 2) := by decide +kernel
theorem dL_pairs_3 : decode cL_pairs 3 = .ok (.iload 5, 2) := by decide +kernel
theorem dL_pairs_5 : decode cL_pairs 5 = .ok (.aload_n 2, 1) := by decide +kernel
theorem dL_pairs_6 : decode cL_pairs 6 = .ok (.iconst 0, 1) := by decide +kernel
theorem dL_pairs_7 : decode cL_pairs 7 = .ok (.iaload, 1) := by decide +kernel
theorem dL_pairs_8 : decode cL_pairs 8 = .ok (.if_icmp .ge 27, 3) := by decide +kernel
theorem dL_pairs_11 : decode cL_pairs 11 = .ok (.aload 4, 2) := by decide +kernel
theorem dL_pairs_13 : decode cL_pairs 13 = .ok (.iconst 2, 1) := by decide +kernel
theorem dL_pairs_14 : decode cL_pairs 14 = .ok (.iload 5, 2) := by decide +kernel
theorem dL_pairs_16 : decode cL_pairs 16 = .ok (.imul, 1) := by decide +kernel
theorem dL_pairs_17 : decode cL_pairs 17 = .ok (.iconst (-1), 1) := by decide +kernel
theorem dL_pairs_18 : decode cL_pairs 18 = .ok (.iastore, 1) := by decide +kernel
theorem dL_pairs_19 : decode cL_pairs 19 = .ok (.aload 4, 2) := by decide +kernel
theorem dL_pairs_21 : decode cL_pairs 21 = .ok (.iconst 2, 1) := by decide +kernel
theorem dL_pairs_22 : decode cL_pairs 22 = .ok (.iload 5, 2) := by decide +kernel
theorem dL_pairs_24 : decode cL_pairs 24 = .ok (.imul, 1) := by decide +kernel
theorem dL_pairs_25 : decode cL_pairs 25 = .ok (.iconst 1, 1) := by decide +kernel
theorem dL_pairs_26 : decode cL_pairs 26 = .ok (.iadd, 1) := by decide +kernel
theorem dL_pairs_27 : decode cL_pairs 27 = .ok (.iconst 4, 1) := by decide +kernel
theorem dL_pairs_28 : decode cL_pairs 28 = .ok (.iastore, 1) := by decide +kernel
theorem dL_pairs_29 : decode cL_pairs 29 = .ok (.iinc 5 1, 3) := by decide +kernel
theorem dL_pairs_32 : decode cL_pairs 32 = .ok (.goto (-29), 3) := by decide +kernel
theorem dL_pairs_35 : decode cL_pairs 35 = .ok (.aload_n 0, 1) := by decide +kernel
theorem dL_pairs_36 : decode cL_pairs 36 = .ok (.aload_n 1, 1) := by decide +kernel
theorem dL_pairs_37 : decode cL_pairs 37 = .ok (.aload_n 2, 1) := by decide +kernel
theorem dL_pairs_38 : decode cL_pairs 38 = .ok (.aload 4, 2) := by decide +kernel
theorem dL_pairs_40 : decode cL_pairs 40 = .ok (.invokestatic 22, 3) := by decide +kernel
theorem dL_pairs_43 : decode cL_pairs 43 = .ok (.iconst 2, 1) := by decide +kernel
theorem dL_pairs_44 : decode cL_pairs 44 = .ok (.aload_n 0, 1) := by decide +kernel
theorem dL_pairs_45 : decode cL_pairs 45 = .ok (.aload_n 1, 1) := by decide +kernel
theorem dL_pairs_46 : decode cL_pairs 46 = .ok (.aload_n 2, 1) := by decide +kernel
theorem dL_pairs_47 : decode cL_pairs 47 = .ok (.aload_n 3, 1) := by decide +kernel
theorem dL_pairs_48 : decode cL_pairs 48 = .ok (.aload 4, 2) := by decide +kernel
theorem dL_pairs_50 : decode cL_pairs 50 = .ok (.invokestatic 26, 3) := by decide +kernel
theorem dL_pairs_53 : decode cL_pairs 53 = .ok (.iconst 3, 1) := by decide +kernel
theorem dL_pairs_54 : decode cL_pairs 54 = .ok (.aload_n 0, 1) := by decide +kernel
theorem dL_pairs_55 : decode cL_pairs 55 = .ok (.aload_n 1, 1) := by decide +kernel
theorem dL_pairs_56 : decode cL_pairs 56 = .ok (.aload_n 2, 1) := by decide +kernel
theorem dL_pairs_57 : decode cL_pairs 57 = .ok (.aload_n 3, 1) := by decide +kernel
theorem dL_pairs_58 : decode cL_pairs 58 = .ok (.aload 4, 2) := by decide +kernel
theorem dL_pairs_60 : decode cL_pairs 60 = .ok (.invokestatic 26, 3) := by decide +kernel
theorem dL_pairs_63 : decode cL_pairs 63 = .ok (.return_, 1) := by decide +kernel
theorem pd_L_pairs : (parseMethodDescriptor yL_pairs.desc).map (fun d => d.parameters.length) = some 5 := by decide +kernel
def w_L_pairs (zz : Nat → Nat) (a0 : Nat) (a1 : Nat) (a2 : Nat) (a3 : Nat) (a4 : Nat) (h : AH) (Q : AH → Prop) : Prop := ∃ I_3 : Nat → Int → AH → Prop, (∃ n, I_3 n (0 : Int) h) ∧ ∀ (n_3 : Nat) (x5_3 : Int) (h_3 : AH), I_3 n_3 x5_3 h_3 → (okI h_3 a2 (0 : Int) ∧ (((haI h_3 a2 (0 : Int)) ≤ x5_3) → w_L_common zz a0 a1 a2 a4 h_3 (fun  (h40 : AH) => w_L_near zz (2 : Int) a0 a1 a2 a3 a4 h40 (fun  (h50 : AH) => w_L_near zz (3 : Int) a0 a1 a2 a3 a4 h50 (fun  (h60 : AH) => Q h60)))) ∧ ((¬ ((haI h_3 a2 (0 : Int)) ≤ x5_3)) → inR ((2 : Int) * x5_3) ∧ okW h_3 a4 ((2 : Int) * x5_3) ∧ ∀ h18 : AH, h18 = saI h_3 a4 (u1 (haI h_3 a4) ((2 : Int) * x5_3) (-1 : Int)) → inR ((2 : Int) * x5_3) ∧ inR (((2 : Int) * x5_3) + (1 : Int)) ∧ okW h18 a4 (((2 : Int) * x5_3) + (1 : Int)) ∧ ∀ h28 : AH, h28 = saI h18 a4 (u1 (haI h18 a4) (((2 : Int) * x5_3) + (1 : Int)) (4 : Int)) → inR (x5_3 + 1) ∧ ∀ x5_29 : Int, x5_29 = (x5_3 + 1) → ∃ m, m < n_3 ∧ I_3 m x5_29 h28))
set_option maxRecDepth 100000 in
set_option maxHeartbeats 4000000 in
theorem met_L_pairs (G : GG) (l : Launch) : ∀ (As : List Value) (a0 : Nat) (a1 : Nat) (a2 : Nat) (a3 : Nat) (a4 : Nat) (h : AH) (Q : AH → Prop), As.map ab = List.map some ([vR a0, vR a1, vR a2, vR a3, vR a4] : List AV) → w_L_pairs G.2.2 a0 a1 a2 a3 a4 h Q → Met l yL_pairs (.code yL_pairs cL_pairs 6 none :: xTb) ({ frames := 3, cells := 2, slots := 16, locals := 72 } : Room) (PcA G As h) (QG G (oV Q)) 2 16 (frA G) := by
  intro As a0 a1 a2 a3 a4 h Q hA hw
  refine met_of hA (by decide) (Nat.le_of_ble_eq_true rfl) (fun p e s m args below meth c C hml hr hnm => ?_)
  unfold w_L_pairs at hw
  refine aw_iconst (pc := 0) C dL_pairs_0 (i := (0 : Int)) (by decide) ?_
  refine aw_istore (pc := 1) C dL_pairs_1 (by rw [hml]; decide) ?_
  obtain ⟨I_3, ⟨n9, hi9⟩, hst9⟩ := hw
  have L_3 : ∀ (n_3 : Nat) (x5_3 : Int) (h_3 : AH), I_3 n_3 x5_3 h_3 → AW G p l e ({ frames := 3, cells := 2, slots := 16, locals := 72 } : Room) s m args below meth c 0 0 (MQ below (QG G (oV Q)) args s 2 16 (frA G)) 3 (eOf [(0, vR a0), (1, vR a1), (2, vR a2), (3, vR a3), (4, vR a4), (5, vI x5_3)]) [] h_3 := by
    intro n_3
    induction n_3 using Nat.strongRecOn with
    | _ n_3 ih_3 =>
    intro x5_3 h_3 hi9
    have hw := hst9 n_3 x5_3 h_3 hi9
    refine aw_iload (pc := 3) C dL_pairs_3 rfl ?_
    refine aw_aload_n (pc := 5) C dL_pairs_5 rfl rfl ?_
    refine aw_iconst (pc := 6) C dL_pairs_6 (i := (0 : Int)) (by decide) ?_
    obtain ⟨⟨k9, hp9⟩, hw⟩ := hw
    refine aw_iald (pc := 7) C dL_pairs_7 hp9 ?_
    refine aw_icmp_ge (pc := 8) (tgt := 35) C dL_pairs_8 (by decide) (fun hc9 => ?_) (fun hc9 => ?_)
    · have hw := hw.1 hc9
      refine aw_aload_n (pc := 35) C dL_pairs_35 rfl rfl ?_
      refine aw_aload_n (pc := 36) C dL_pairs_36 rfl rfl ?_
      refine aw_aload_n (pc := 37) C dL_pairs_37 rfl rfl ?_
      refine aw_aload (pc := 38) C dL_pairs_38 rfl ?_
      refine aw_callS (pc := 40) (as := [vR a0, vR a1, vR a2, vR a4]) C (fun As hA => met_L_common G l As a0 a1 a2 a4 _ _ hA hw) tw456 tw457 tw0 tw458 ⟨rfl, rfl⟩ ⟨by decide, by decide, pd_L_common⟩ ⟨Nat.le_of_ble_eq_true rfl, Nat.le_of_ble_eq_true rfl⟩ ⟨(Nat.le_of_ble_eq_true rfl), (Nat.le_of_ble_eq_true rfl)⟩ (Nat.le_of_ble_eq_true rfl) dL_pairs_40 rfl (fun v9 h40 hq9 => ?_)
      obtain ⟨rfl, hw⟩ := hq9
      refine aw_iconst (pc := 43) C dL_pairs_43 (i := (2 : Int)) (by decide) ?_
      refine aw_aload_n (pc := 44) C dL_pairs_44 rfl rfl ?_
      refine aw_aload_n (pc := 45) C dL_pairs_45 rfl rfl ?_
      refine aw_aload_n (pc := 46) C dL_pairs_46 rfl rfl ?_
      refine aw_aload_n (pc := 47) C dL_pairs_47 rfl rfl ?_
      refine aw_aload (pc := 48) C dL_pairs_48 rfl ?_
      refine aw_callS (pc := 50) (as := [vI (2 : Int), vR a0, vR a1, vR a2, vR a3, vR a4]) C (fun As hA => met_L_near G l As (2 : Int) a0 a1 a2 a3 a4 _ _ hA hw) tw459 tw460 tw0 tw461 ⟨rfl, rfl⟩ ⟨by decide, by decide, pd_L_near⟩ ⟨Nat.le_of_ble_eq_true rfl, Nat.le_of_ble_eq_true rfl⟩ ⟨(Nat.le_of_ble_eq_true rfl), (Nat.le_of_ble_eq_true rfl)⟩ (Nat.le_of_ble_eq_true rfl) dL_pairs_50 rfl (fun v9 h50 hq9 => ?_)
      obtain ⟨rfl, hw⟩ := hq9
      refine aw_iconst (pc := 53) C dL_pairs_53 (i := (3 : Int)) (by decide) ?_
      refine aw_aload_n (pc := 54) C dL_pairs_54 rfl rfl ?_
      refine aw_aload_n (pc := 55) C dL_pairs_55 rfl rfl ?_
      refine aw_aload_n (pc := 56) C dL_pairs_56 rfl rfl ?_
      refine aw_aload_n (pc := 57) C dL_pairs_57 rfl rfl ?_
      refine aw_aload (pc := 58) C dL_pairs_58 rfl ?_
      refine aw_callS (pc := 60) (as := [vI (3 : Int), vR a0, vR a1, vR a2, vR a3, vR a4]) C (fun As hA => met_L_near G l As (3 : Int) a0 a1 a2 a3 a4 _ _ hA hw) tw459 tw460 tw0 tw461 ⟨rfl, rfl⟩ ⟨by decide, by decide, pd_L_near⟩ ⟨Nat.le_of_ble_eq_true rfl, Nat.le_of_ble_eq_true rfl⟩ ⟨(Nat.le_of_ble_eq_true rfl), (Nat.le_of_ble_eq_true rfl)⟩ (Nat.le_of_ble_eq_true rfl) dL_pairs_60 rfl (fun v9 h60 hq9 => ?_)
      obtain ⟨rfl, hw⟩ := hq9
      exact aw_vret (pc := 63) C hr dL_pairs_63 ⟨Nat.le_of_ble_eq_true rfl, Nat.le_of_ble_eq_true rfl⟩ ⟨rfl, hw⟩
    · have hw := hw.2 hc9
      refine aw_aload (pc := 11) C dL_pairs_11 rfl ?_
      refine aw_iconst (pc := 13) C dL_pairs_13 (i := (2 : Int)) (by decide) ?_
      refine aw_iload (pc := 14) C dL_pairs_14 rfl ?_
      obtain ⟨hp9, hw⟩ := hw
      refine aw_imul (pc := 16) C dL_pairs_16 hp9 ?_
      refine aw_iconst (pc := 17) C dL_pairs_17 (i := (-1 : Int)) (by decide) ?_
      obtain ⟨⟨k9, hp9⟩, hw⟩ := hw
      refine aw_iast (pc := 18) C dL_pairs_18 hp9 (aw_nmH (fun h18 e9 => ?_))
      have hw := hw h18 e9
      refine aw_aload (pc := 19) C dL_pairs_19 rfl ?_
      refine aw_iconst (pc := 21) C dL_pairs_21 (i := (2 : Int)) (by decide) ?_
      refine aw_iload (pc := 22) C dL_pairs_22 rfl ?_
      obtain ⟨hp9, hw⟩ := hw
      refine aw_imul (pc := 24) C dL_pairs_24 hp9 ?_
      refine aw_iconst (pc := 25) C dL_pairs_25 (i := (1 : Int)) (by decide) ?_
      obtain ⟨hp9, hw⟩ := hw
      refine aw_iadd (pc := 26) C dL_pairs_26 hp9 ?_
      refine aw_iconst (pc := 27) C dL_pairs_27 (i := (4 : Int)) (by decide) ?_
      obtain ⟨⟨k9, hp9⟩, hw⟩ := hw
      refine aw_iast (pc := 28) C dL_pairs_28 hp9 (aw_nmH (fun h28 e9 => ?_))
      have hw := hw h28 e9
      obtain ⟨hp9, hw⟩ := hw
      refine aw_iincN (pc := 29) C dL_pairs_29 (k := 1) (by decide) rfl (by rw [hml]; decide) hp9 (fun x5_29 e9 => ?_)
      have hw := hw x5_29 e9
      refine aw_goto (pc := 32) (tgt := 3) C dL_pairs_32 (by decide) ?_
      obtain ⟨m9, hm9, hw⟩ := hw
      refine aw_sub [(0, vR a0), (1, vR a1), (2, vR a2), (3, vR a3), (4, vR a4), (5, vI x5_29)] ⟨rfl, rfl, rfl, rfl, rfl, rfl, trivial⟩ ?_
      exact ih_3 m9 hm9 _ _ hw
  refine aw_sub [(0, vR a0), (1, vR a1), (2, vR a2), (3, vR a3), (4, vR a4), (5, vI (0 : Int))] ⟨rfl, rfl, rfl, rfl, rfl, rfl, trivial⟩ ?_
  exact L_3 n9 _ _ hi9
theorem dL_many_0 : decode cL_many 0 = .ok (.iconst 0, 1) := by decide +kernel
theorem dL_many_1 : decode cL_many 1 = .ok (.istore_n 3, 1) := by decide +kernel
theorem dL_many_2 : decode cL_many 2 = .ok (.iconst 0, 1) := by decide +kernel
theorem dL_many_3 : decode cL_many 3 = .ok (.istore 4, 2) := by decide +kernel
theorem dL_many_5 : decode cL_many 5 = .ok (.iload 4, 2) := by decide +kernel
theorem dL_many_7 : decode cL_many 7 = .ok (.aload_n 1, 1) := by decide +kernel
theorem dL_many_8 : decode cL_many 8 = .ok (.iconst 0, 1) := by decide +kernel
theorem dL_many_9 : decode cL_many 9 = .ok (.iaload, 1) := by decide +kernel
theorem dL_many_10 : decode cL_many 10 = .ok (.if_icmp .ge 29, 3) := by decide +kernel
theorem dL_many_13 : decode cL_many 13 = .ok (.iload_n 3, 1) := by decide +kernel
theorem dL_many_14 : decode cL_many 14 = .ok (.aload_n 2, 1) := by decide +kernel
theorem dL_many_15 : decode cL_many 15 = .ok (.iconst 2, 1) := by decide +kernel
theorem dL_many_16 : decode cL_many 16 = .ok (.iload 4, 2) := by decide +kernel
theorem dL_many_18 : decode cL_many 18 = .ok (.imul, 1) := by decide +kernel
theorem dL_many_19 : decode cL_many 19 = .ok (.iconst 1, 1) := by decide +kernel
theorem dL_many_20 : decode cL_many 20 = .ok (.iadd, 1) := by decide +kernel
theorem dL_many_21 : decode cL_many 21 = .ok (.iaload, 1) := by decide +kernel
theorem dL_many_22 : decode cL_many 22 = .ok (.iload_n 0, 1) := by decide +kernel
theorem dL_many_23 : decode cL_many 23 = .ok (.if_icmp .ne 7, 3) := by decide +kernel
theorem dL_many_26 : decode cL_many 26 = .ok (.iconst 1, 1) := by decide +kernel
theorem dL_many_27 : decode cL_many 27 = .ok (.goto 4, 3) := by decide +kernel
theorem dL_many_30 : decode cL_many 30 = .ok (.iconst 0, 1) := by decide +kernel
theorem dL_many_31 : decode cL_many 31 = .ok (.iadd, 1) := by decide +kernel
theorem dL_many_32 : decode cL_many 32 = .ok (.istore_n 3, 1) := by decide +kernel
theorem dL_many_33 : decode cL_many 33 = .ok (.iinc 4 1, 3) := by decide +kernel
theorem dL_many_36 : decode cL_many 36 = .ok (.goto (-31), 3) := by decide +kernel
theorem dL_many_39 : decode cL_many 39 = .ok (.iload_n 3, 1) := by decide +kernel
theorem dL_many_40 : decode cL_many 40 = .ok (.ireturn, 1) := by decide +kernel
theorem pd_L_many : (parseMethodDescriptor yL_many.desc).map (fun d => d.parameters.length) = some 3 := by decide +kernel
def w_L_many (zz : Nat → Nat) (a0 : Int) (a1 : Nat) (a2 : Nat) (h : AH) (Q : Int → AH → Prop) : Prop := ∃ I_5 : Nat → Int → Int → AH → Prop, (∃ n, I_5 n (0 : Int) (0 : Int) h) ∧ ∀ (n_5 : Nat) (x3_5 : Int) (x4_5 : Int) (h_5 : AH), I_5 n_5 x3_5 x4_5 h_5 → (okI h_5 a1 (0 : Int) ∧ (((haI h_5 a1 (0 : Int)) ≤ x4_5) → Q x3_5 h_5) ∧ ((¬ ((haI h_5 a1 (0 : Int)) ≤ x4_5)) → inR ((2 : Int) * x4_5) ∧ inR (((2 : Int) * x4_5) + (1 : Int)) ∧ okI h_5 a2 (((2 : Int) * x4_5) + (1 : Int)) ∧ jn (fun (t1_31 : Int) (h_31 : AH) => inR (x3_5 + t1_31) ∧ ∀ x3_32 : Int, x3_32 = (x3_5 + t1_31) → inR (x4_5 + 1) ∧ ∀ x4_33 : Int, x4_33 = (x4_5 + 1) → ∃ m, m < n_5 ∧ I_5 m x3_32 x4_33 h_31) (fun k_31 : Int → AH → Prop => ((¬ (haI h_5 a2 (((2 : Int) * x4_5) + (1 : Int))) = a0) → k_31 (0 : Int) h_5) ∧ (((haI h_5 a2 (((2 : Int) * x4_5) + (1 : Int))) = a0) → k_31 (1 : Int) h_5))))
set_option maxRecDepth 100000 in
set_option maxHeartbeats 4000000 in
theorem met_L_many (G : GG) (l : Launch) : ∀ (As : List Value) (a0 : Int) (a1 : Nat) (a2 : Nat) (h : AH) (Q : Int → AH → Prop), As.map ab = List.map some ([vI a0, vR a1, vR a2] : List AV) → w_L_many G.2.2 a0 a1 a2 h Q → Met l yL_many (.code yL_many cL_many 5 (some .int) :: xTb) ({ frames := 0, cells := 0, slots := 0, locals := 0 } : Room) (PcA G As h) (QG G (oI Q)) 0 0 (frA G) := by
  intro As a0 a1 a2 h Q hA hw
  refine met_of hA (by decide) (Nat.le_of_ble_eq_true rfl) (fun p e s m args below meth c C hml hr hnm => ?_)
  unfold w_L_many at hw
  refine aw_iconst (pc := 0) C dL_many_0 (i := (0 : Int)) (by decide) ?_
  refine aw_istore_n (pc := 1) C dL_many_1 rfl (by rw [hml]; decide) ?_
  refine aw_iconst (pc := 2) C dL_many_2 (i := (0 : Int)) (by decide) ?_
  refine aw_istore (pc := 3) C dL_many_3 (by rw [hml]; decide) ?_
  obtain ⟨I_5, ⟨n9, hi9⟩, hst9⟩ := hw
  have L_5 : ∀ (n_5 : Nat) (x3_5 : Int) (x4_5 : Int) (h_5 : AH), I_5 n_5 x3_5 x4_5 h_5 → AW G p l e ({ frames := 0, cells := 0, slots := 0, locals := 0 } : Room) s m args below meth c 0 0 (MQ below (QG G (oI Q)) args s 0 0 (frA G)) 5 (eOf [(0, vI a0), (1, vR a1), (2, vR a2), (3, vI x3_5), (4, vI x4_5)]) [] h_5 := by
    intro n_5
    induction n_5 using Nat.strongRecOn with
    | _ n_5 ih_5 =>
    intro x3_5 x4_5 h_5 hi9
    have hw := hst9 n_5 x3_5 x4_5 h_5 hi9
    refine aw_iload (pc := 5) C dL_many_5 rfl ?_
    refine aw_aload_n (pc := 7) C dL_many_7 rfl rfl ?_
    refine aw_iconst (pc := 8) C dL_many_8 (i := (0 : Int)) (by decide) ?_
    obtain ⟨⟨k9, hp9⟩, hw⟩ := hw
    refine aw_iald (pc := 9) C dL_many_9 hp9 ?_
    refine aw_icmp_ge (pc := 10) (tgt := 39) C dL_many_10 (by decide) (fun hc9 => ?_) (fun hc9 => ?_)
    · have hw := hw.1 hc9
      refine aw_iload_n (pc := 39) C dL_many_39 rfl rfl ?_
      exact aw_iret (pc := 40) C hr dL_many_40 ⟨Nat.le_of_ble_eq_true rfl, Nat.le_of_ble_eq_true rfl⟩ ⟨_, rfl, hw⟩
    · have hw := hw.2 hc9
      refine aw_iload_n (pc := 13) C dL_many_13 rfl rfl ?_
      refine aw_aload_n (pc := 14) C dL_many_14 rfl rfl ?_
      refine aw_iconst (pc := 15) C dL_many_15 (i := (2 : Int)) (by decide) ?_
      refine aw_iload (pc := 16) C dL_many_16 rfl ?_
      obtain ⟨hp9, hw⟩ := hw
      refine aw_imul (pc := 18) C dL_many_18 hp9 ?_
      refine aw_iconst (pc := 19) C dL_many_19 (i := (1 : Int)) (by decide) ?_
      obtain ⟨hp9, hw⟩ := hw
      refine aw_iadd (pc := 20) C dL_many_20 hp9 ?_
      obtain ⟨⟨k9, hp9⟩, hw⟩ := hw
      refine aw_iald (pc := 21) C dL_many_21 hp9 ?_
      refine aw_iload_n (pc := 22) C dL_many_22 rfl rfl ?_
      obtain ⟨k_31, hk_31, hw⟩ := jn_out hw
      have J_31 : ∀ (t1_31 : Int) (h_31 : AH), k_31 t1_31 h_31 → AW G p l e ({ frames := 0, cells := 0, slots := 0, locals := 0 } : Room) s m args below meth c 0 0 (MQ below (QG G (oI Q)) args s 0 0 (frA G)) 31 (eOf [(0, vI a0), (1, vR a1), (2, vR a2), (4, vI x4_5)]) [vI t1_31, vI x3_5] h_31 := by
        intro t1_31 h_31 hw
        rw [hk_31] at hw
        obtain ⟨hp9, hw⟩ := hw
        refine aw_iadd (pc := 31) C dL_many_31 hp9 ?_
        refine aw_nmI (fun x3_32 e9 => ?_)
        have hw := hw x3_32 e9
        refine aw_istore_n (pc := 32) C dL_many_32 rfl (by rw [hml]; decide) ?_
        obtain ⟨hp9, hw⟩ := hw
        refine aw_iincN (pc := 33) C dL_many_33 (k := 1) (by decide) rfl (by rw [hml]; decide) hp9 (fun x4_33 e9 => ?_)
        have hw := hw x4_33 e9
        refine aw_goto (pc := 36) (tgt := 5) C dL_many_36 (by decide) ?_
        obtain ⟨m9, hm9, hw⟩ := hw
        refine aw_sub [(0, vI a0), (1, vR a1), (2, vR a2), (3, vI x3_32), (4, vI x4_33)] ⟨rfl, rfl, rfl, rfl, rfl, trivial⟩ ?_
        exact ih_5 m9 hm9 _ _ _ hw
      refine aw_icmp_ne (pc := 23) (tgt := 30) C dL_many_23 (by decide) (fun hc9 => ?_) (fun hc9 => ?_)
      · have hw := hw.1 hc9
        refine aw_iconst (pc := 30) C dL_many_30 (i := (0 : Int)) (by decide) ?_
        refine aw_sub [(0, vI a0), (1, vR a1), (2, vR a2), (4, vI x4_5)] ⟨rfl, rfl, rfl, rfl, trivial⟩ ?_
        exact J_31 _ _ hw
      · have hw := hw.2 hc9
        refine aw_iconst (pc := 26) C dL_many_26 (i := (1 : Int)) (by decide) ?_
        refine aw_goto (pc := 27) (tgt := 31) C dL_many_27 (by decide) ?_
        refine aw_sub [(0, vI a0), (1, vR a1), (2, vR a2), (4, vI x4_5)] ⟨rfl, rfl, rfl, rfl, trivial⟩ ?_
        exact J_31 _ _ hw
  refine aw_sub [(0, vI a0), (1, vR a1), (2, vR a2), (3, vI (0 : Int)), (4, vI (0 : Int))] ⟨rfl, rfl, rfl, rfl, rfl, trivial⟩ ?_
  exact L_5 n9 _ _ _ hi9
theorem dL_goes_0 : decode cL_goes 0 = .ok (.iconst 0, 1) := by decide +kernel
theorem dL_goes_1 : decode cL_goes 1 = .ok (.istore 4, 2) := by decide +kernel
theorem dL_goes_3 : decode cL_goes 3 = .ok (.iload 4, 2) := by decide +kernel
theorem dL_goes_5 : decode cL_goes 5 = .ok (.aload_n 1, 1) := by decide +kernel
theorem dL_goes_6 : decode cL_goes 6 = .ok (.iconst 0, 1) := by decide +kernel
theorem dL_goes_7 : decode cL_goes 7 = .ok (.iaload, 1) := by decide +kernel
theorem dL_goes_8 : decode cL_goes 8 = .ok (.if_icmp .ge 37, 3) := by decide +kernel
theorem dL_goes_11 : decode cL_goes 11 = .ok (.aload_n 2, 1) := by decide +kernel
theorem dL_goes_12 : decode cL_goes 12 = .ok (.iconst 2, 1) := by decide +kernel
theorem dL_goes_13 : decode cL_goes 13 = .ok (.iload 4, 2) := by decide +kernel
theorem dL_goes_15 : decode cL_goes 15 = .ok (.imul, 1) := by decide +kernel
theorem dL_goes_16 : decode cL_goes 16 = .ok (.iaload, 1) := by decide +kernel
theorem dL_goes_17 : decode cL_goes 17 = .ok (.ifCond .lt 22, 3) := by decide +kernel
theorem dL_goes_20 : decode cL_goes 20 = .ok (.aload_n 3, 1) := by decide +kernel
theorem dL_goes_21 : decode cL_goes 21 = .ok (.iload 4, 2) := by decide +kernel
theorem dL_goes_23 : decode cL_goes 23 = .ok (.iaload, 1) := by decide +kernel
theorem dL_goes_24 : decode cL_goes 24 = .ok (.aload_n 0, 1) := by decide +kernel
theorem dL_goes_25 : decode cL_goes 25 = .ok (.iconst 2, 1) := by decide +kernel
theorem dL_goes_26 : decode cL_goes 26 = .ok (.aload_n 2, 1) := by decide +kernel
theorem dL_goes_27 : decode cL_goes 27 = .ok (.iconst 2, 1) := by decide +kernel
theorem dL_goes_28 : decode cL_goes 28 = .ok (.iload 4, 2) := by decide +kernel
theorem dL_goes_30 : decode cL_goes 30 = .ok (.imul, 1) := by decide +kernel
theorem dL_goes_31 : decode cL_goes 31 = .ok (.iaload, 1) := by decide +kernel
theorem dL_goes_32 : decode cL_goes 32 = .ok (.imul, 1) := by decide +kernel
theorem dL_goes_33 : decode cL_goes 33 = .ok (.iaload, 1) := by decide +kernel
theorem dL_goes_34 : decode cL_goes 34 = .ok (.if_icmp .eq 5, 3) := by decide +kernel
theorem dL_goes_37 : decode cL_goes 37 = .ok (.iconst 1, 1) := by decide +kernel
theorem dL_goes_38 : decode cL_goes 38 = .ok (.ireturn, 1) := by decide +kernel
theorem dL_goes_39 : decode cL_goes 39 = .ok (.iinc 4 1, 3) := by decide +kernel
theorem dL_goes_42 : decode cL_goes 42 = .ok (.goto (-39), 3) := by decide +kernel
theorem dL_goes_45 : decode cL_goes 45 = .ok (.iconst 0, 1) := by decide +kernel
theorem dL_goes_46 : decode cL_goes 46 = .ok (.ireturn, 1) := by decide +kernel
theorem pd_L_goes : (parseMethodDescriptor yL_goes.desc).map (fun d => d.parameters.length) = some 4 := by decide +kernel
def w_L_goes (zz : Nat → Nat) (a0 : Nat) (a1 : Nat) (a2 : Nat) (a3 : Nat) (h : AH) (Q : Int → AH → Prop) : Prop := ∃ I_3 : Nat → Int → AH → Prop, (∃ n, I_3 n (0 : Int) h) ∧ ∀ (n_3 : Nat) (x4_3 : Int) (h_3 : AH), I_3 n_3 x4_3 h_3 → (okI h_3 a1 (0 : Int) ∧ (((haI h_3 a1 (0 : Int)) ≤ x4_3) → ((0 : Int) = 0 ∨ (0 : Int) = 1) ∧ Q (0 : Int) h_3) ∧ ((¬ ((haI h_3 a1 (0 : Int)) ≤ x4_3)) → inR ((2 : Int) * x4_3) ∧ okI h_3 a2 ((2 : Int) * x4_3) ∧ jn (fun  (h_39 : AH) => inR (x4_3 + 1) ∧ ∀ x4_39 : Int, x4_39 = (x4_3 + 1) → ∃ m, m < n_3 ∧ I_3 m x4_39 h_39) (fun k_39 : AH → Prop => (((haI h_3 a2 ((2 : Int) * x4_3)) < 0) → k_39  h_3) ∧ ((¬ ((haI h_3 a2 ((2 : Int) * x4_3)) < 0)) → okI h_3 a3 x4_3 ∧ inR ((2 : Int) * x4_3) ∧ okI h_3 a2 ((2 : Int) * x4_3) ∧ inR ((2 : Int) * (haI h_3 a2 ((2 : Int) * x4_3))) ∧ okI h_3 a0 ((2 : Int) * (haI h_3 a2 ((2 : Int) * x4_3))) ∧ (((haI h_3 a3 x4_3) = (haI h_3 a0 ((2 : Int) * (haI h_3 a2 ((2 : Int) * x4_3))))) → k_39  h_3) ∧ ((¬ ((haI h_3 a3 x4_3) = (haI h_3 a0 ((2 : Int) * (haI h_3 a2 ((2 : Int) * x4_3)))))) → ((1 : Int) = 0 ∨ (1 : Int) = 1) ∧ Q (1 : Int) h_3)))))
set_option maxRecDepth 100000 in
set_option maxHeartbeats 4000000 in
theorem met_L_goes (G : GG) (l : Launch) : ∀ (As : List Value) (a0 : Nat) (a1 : Nat) (a2 : Nat) (a3 : Nat) (h : AH) (Q : Int → AH → Prop), As.map ab = List.map some ([vR a0, vR a1, vR a2, vR a3] : List AV) → w_L_goes G.2.2 a0 a1 a2 a3 h Q → Met l yL_goes (.code yL_goes cL_goes 5 (some .boolean) :: xTb) ({ frames := 0, cells := 0, slots := 0, locals := 0 } : Room) (PcA G As h) (QG G (oI Q)) 0 0 (frA G) := by
  intro As a0 a1 a2 a3 h Q hA hw
  refine met_of hA (by decide) (Nat.le_of_ble_eq_true rfl) (fun p e s m args below meth c C hml hr hnm => ?_)
  unfold w_L_goes at hw
  refine aw_iconst (pc := 0) C dL_goes_0 (i := (0 : Int)) (by decide) ?_
  refine aw_istore (pc := 1) C dL_goes_1 (by rw [hml]; decide) ?_
  obtain ⟨I_3, ⟨n9, hi9⟩, hst9⟩ := hw
  have L_3 : ∀ (n_3 : Nat) (x4_3 : Int) (h_3 : AH), I_3 n_3 x4_3 h_3 → AW G p l e ({ frames := 0, cells := 0, slots := 0, locals := 0 } : Room) s m args below meth c 0 0 (MQ below (QG G (oI Q)) args s 0 0 (frA G)) 3 (eOf [(0, vR a0), (1, vR a1), (2, vR a2), (3, vR a3), (4, vI x4_3)]) [] h_3 := by
    intro n_3
    induction n_3 using Nat.strongRecOn with
    | _ n_3 ih_3 =>
    intro x4_3 h_3 hi9
    have hw := hst9 n_3 x4_3 h_3 hi9
    refine aw_iload (pc := 3) C dL_goes_3 rfl ?_
    refine aw_aload_n (pc := 5) C dL_goes_5 rfl rfl ?_
    refine aw_iconst (pc := 6) C dL_goes_6 (i := (0 : Int)) (by decide) ?_
    obtain ⟨⟨k9, hp9⟩, hw⟩ := hw
    refine aw_iald (pc := 7) C dL_goes_7 hp9 ?_
    refine aw_icmp_ge (pc := 8) (tgt := 45) C dL_goes_8 (by decide) (fun hc9 => ?_) (fun hc9 => ?_)
    · have hw := hw.1 hc9
      refine aw_iconst (pc := 45) C dL_goes_45 (i := (0 : Int)) (by decide) ?_
      obtain ⟨hp9, hw⟩ := hw
      exact aw_zret (pc := 46) C hr dL_goes_46 ⟨Nat.le_of_ble_eq_true rfl, Nat.le_of_ble_eq_true rfl⟩ hp9 ⟨_, rfl, hw⟩
    · have hw := hw.2 hc9
      refine aw_aload_n (pc := 11) C dL_goes_11 rfl rfl ?_
      refine aw_iconst (pc := 12) C dL_goes_12 (i := (2 : Int)) (by decide) ?_
      refine aw_iload (pc := 13) C dL_goes_13 rfl ?_
      obtain ⟨hp9, hw⟩ := hw
      refine aw_imul (pc := 15) C dL_goes_15 hp9 ?_
      obtain ⟨⟨k9, hp9⟩, hw⟩ := hw
      refine aw_iald (pc := 16) C dL_goes_16 hp9 ?_
      obtain ⟨k_39, hk_39, hw⟩ := jn_out hw
      have J_39 : ∀  (h_39 : AH), k_39  h_39 → AW G p l e ({ frames := 0, cells := 0, slots := 0, locals := 0 } : Room) s m args below meth c 0 0 (MQ below (QG G (oI Q)) args s 0 0 (frA G)) 39 (eOf [(0, vR a0), (1, vR a1), (2, vR a2), (3, vR a3), (4, vI x4_3)]) [] h_39 := by
        intro  h_39 hw
        rw [hk_39] at hw
        obtain ⟨hp9, hw⟩ := hw
        refine aw_iincN (pc := 39) C dL_goes_39 (k := 1) (by decide) rfl (by rw [hml]; decide) hp9 (fun x4_39 e9 => ?_)
        have hw := hw x4_39 e9
        refine aw_goto (pc := 42) (tgt := 3) C dL_goes_42 (by decide) ?_
        obtain ⟨m9, hm9, hw⟩ := hw
        refine aw_sub [(0, vR a0), (1, vR a1), (2, vR a2), (3, vR a3), (4, vI x4_39)] ⟨rfl, rfl, rfl, rfl, rfl, trivial⟩ ?_
        exact ih_3 m9 hm9 _ _ hw
      refine aw_if_lt (pc := 17) (tgt := 39) C dL_goes_17 (by decide) (fun hc9 => ?_) (fun hc9 => ?_)
      · have hw := hw.1 hc9
        refine aw_sub [(0, vR a0), (1, vR a1), (2, vR a2), (3, vR a3), (4, vI x4_3)] ⟨rfl, rfl, rfl, rfl, rfl, trivial⟩ ?_
        exact J_39  _ hw
      · have hw := hw.2 hc9
        refine aw_aload_n (pc := 20) C dL_goes_20 rfl rfl ?_
        refine aw_iload (pc := 21) C dL_goes_21 rfl ?_
        obtain ⟨⟨k9, hp9⟩, hw⟩ := hw
        refine aw_iald (pc := 23) C dL_goes_23 hp9 ?_
        refine aw_aload_n (pc := 24) C dL_goes_24 rfl rfl ?_
        refine aw_iconst (pc := 25) C dL_goes_25 (i := (2 : Int)) (by decide) ?_
        refine aw_aload_n (pc := 26) C dL_goes_26 rfl rfl ?_
        refine aw_iconst (pc := 27) C dL_goes_27 (i := (2 : Int)) (by decide) ?_
        refine aw_iload (pc := 28) C dL_goes_28 rfl ?_
        obtain ⟨hp9, hw⟩ := hw
        refine aw_imul (pc := 30) C dL_goes_30 hp9 ?_
        obtain ⟨⟨k9, hp9⟩, hw⟩ := hw
        refine aw_iald (pc := 31) C dL_goes_31 hp9 ?_
        obtain ⟨hp9, hw⟩ := hw
        refine aw_imul (pc := 32) C dL_goes_32 hp9 ?_
        obtain ⟨⟨k9, hp9⟩, hw⟩ := hw
        refine aw_iald (pc := 33) C dL_goes_33 hp9 ?_
        refine aw_icmp_eq (pc := 34) (tgt := 39) C dL_goes_34 (by decide) (fun hc9 => ?_) (fun hc9 => ?_)
        · have hw := hw.1 hc9
          refine aw_sub [(0, vR a0), (1, vR a1), (2, vR a2), (3, vR a3), (4, vI x4_3)] ⟨rfl, rfl, rfl, rfl, rfl, trivial⟩ ?_
          exact J_39  _ hw
        · have hw := hw.2 hc9
          refine aw_iconst (pc := 37) C dL_goes_37 (i := (1 : Int)) (by decide) ?_
          obtain ⟨hp9, hw⟩ := hw
          exact aw_zret (pc := 38) C hr dL_goes_38 ⟨Nat.le_of_ble_eq_true rfl, Nat.le_of_ble_eq_true rfl⟩ hp9 ⟨_, rfl, hw⟩
  refine aw_sub [(0, vR a0), (1, vR a1), (2, vR a2), (3, vR a3), (4, vI (0 : Int))] ⟨rfl, rfl, rfl, rfl, rfl, trivial⟩ ?_
  exact L_3 n9 _ _ hi9
theorem dL_next_0 : decode cL_next 0 = .ok (.iload_n 1, 1) := by decide +kernel
theorem dL_next_1 : decode cL_next 1 = .ok (.bipush 16, 2) := by decide +kernel
theorem dL_next_3 : decode cL_next 3 = .ok (.irem, 1) := by decide +kernel
theorem dL_next_4 : decode cL_next 4 = .ok (.iload_n 0, 1) := by decide +kernel
theorem dL_next_5 : decode cL_next 5 = .ok (.bipush 16, 2) := by decide +kernel
theorem dL_next_7 : decode cL_next 7 = .ok (.irem, 1) := by decide +kernel
theorem dL_next_8 : decode cL_next 8 = .ok (.isub, 1) := by decide +kernel
theorem dL_next_9 : decode cL_next 9 = .ok (.istore_n 3, 1) := by decide +kernel
theorem dL_next_10 : decode cL_next 10 = .ok (.iload_n 1, 1) := by decide +kernel
theorem dL_next_11 : decode cL_next 11 = .ok (.bipush 16, 2) := by decide +kernel
theorem dL_next_13 : decode cL_next 13 = .ok (.idiv, 1) := by decide +kernel
theorem dL_next_14 : decode cL_next 14 = .ok (.iload_n 0, 1) := by decide +kernel
theorem dL_next_15 : decode cL_next 15 = .ok (.bipush 16, 2) := by decide +kernel
theorem dL_next_17 : decode cL_next 17 = .ok (.idiv, 1) := by decide +kernel
theorem dL_next_18 : decode cL_next 18 = .ok (.isub, 1) := by decide +kernel
theorem dL_next_19 : decode cL_next 19 = .ok (.istore 4, 2) := by decide +kernel
theorem dL_next_21 : decode cL_next 21 = .ok (.iload_n 2, 1) := by decide +kernel
theorem dL_next_22 : decode cL_next 22 = .ok (.ifCond .ne 15, 3) := by decide +kernel
theorem dL_next_25 : decode cL_next 25 = .ok (.iload_n 3, 1) := by decide +kernel
theorem dL_next_26 : decode cL_next 26 = .ok (.ifCond .eq 7, 3) := by decide +kernel
theorem dL_next_29 : decode cL_next 29 = .ok (.iconst 1, 1) := by decide +kernel
theorem dL_next_30 : decode cL_next 30 = .ok (.goto 42, 3) := by decide +kernel
theorem dL_next_33 : decode cL_next 33 = .ok (.iconst 0, 1) := by decide +kernel
theorem dL_next_34 : decode cL_next 34 = .ok (.goto 38, 3) := by decide +kernel
theorem dL_next_37 : decode cL_next 37 = .ok (.iload_n 2, 1) := by decide +kernel
theorem dL_next_38 : decode cL_next 38 = .ok (.iconst 1, 1) := by decide +kernel
theorem dL_next_39 : decode cL_next 39 = .ok (.if_icmp .ne 16, 3) := by decide +kernel
theorem dL_next_42 : decode cL_next 42 = .ok (.iload 4, 2) := by decide +kernel
theorem dL_next_44 : decode cL_next 44 = .ok (.ifCond .ne 7, 3) := by decide +kernel
theorem dL_next_47 : decode cL_next 47 = .ok (.iconst 1, 1) := by decide +kernel
theorem dL_next_48 : decode cL_next 48 = .ok (.goto 24, 3) := by decide +kernel
theorem dL_next_51 : decode cL_next 51 = .ok (.iconst 0, 1) := by decide +kernel
theorem dL_next_52 : decode cL_next 52 = .ok (.goto 20, 3) := by decide +kernel
theorem dL_next_55 : decode cL_next 55 = .ok (.iload_n 3, 1) := by decide +kernel
theorem dL_next_56 : decode cL_next 56 = .ok (.invokestatic 8, 3) := by decide +kernel
theorem dL_next_59 : decode cL_next 59 = .ok (.iload 4, 2) := by decide +kernel
theorem dL_next_61 : decode cL_next 61 = .ok (.invokestatic 8, 3) := by decide +kernel
theorem dL_next_64 : decode cL_next 64 = .ok (.if_icmp .lt 7, 3) := by decide +kernel
theorem dL_next_67 : decode cL_next 67 = .ok (.iconst 1, 1) := by decide +kernel
theorem dL_next_68 : decode cL_next 68 = .ok (.goto 4, 3) := by decide +kernel
theorem dL_next_71 : decode cL_next 71 = .ok (.iconst 0, 1) := by decide +kernel
theorem dL_next_72 : decode cL_next 72 = .ok (.istore 5, 2) := by decide +kernel
theorem dL_next_74 : decode cL_next 74 = .ok (.iload 5, 2) := by decide +kernel
theorem dL_next_76 : decode cL_next 76 = .ok (.ifCond .eq 17, 3) := by decide +kernel
theorem dL_next_79 : decode cL_next 79 = .ok (.iload_n 0, 1) := by decide +kernel
theorem dL_next_80 : decode cL_next 80 = .ok (.iload_n 3, 1) := by decide +kernel
theorem dL_next_81 : decode cL_next 81 = .ok (.ifCond .ge 7, 3) := by decide +kernel
theorem dL_next_84 : decode cL_next 84 = .ok (.iconst (-1), 1) := by decide +kernel
theorem dL_next_85 : decode cL_next 85 = .ok (.goto 4, 3) := by decide +kernel
theorem dL_next_88 : decode cL_next 88 = .ok (.iconst 1, 1) := by decide +kernel
theorem dL_next_89 : decode cL_next 89 = .ok (.iadd, 1) := by decide +kernel
theorem dL_next_90 : decode cL_next 90 = .ok (.goto 17, 3) := by decide +kernel
theorem dL_next_93 : decode cL_next 93 = .ok (.iload_n 0, 1) := by decide +kernel
theorem dL_next_94 : decode cL_next 94 = .ok (.iload 4, 2) := by decide +kernel
theorem dL_next_96 : decode cL_next 96 = .ok (.ifCond .ge 8, 3) := by decide +kernel
theorem dL_next_99 : decode cL_next 99 = .ok (.bipush (-16), 2) := by decide +kernel
theorem dL_next_101 : decode cL_next 101 = .ok (.goto 5, 3) := by decide +kernel
theorem dL_next_104 : decode cL_next 104 = .ok (.bipush 16, 2) := by decide +kernel
theorem dL_next_106 : decode cL_next 106 = .ok (.iadd, 1) := by decide +kernel
theorem dL_next_107 : decode cL_next 107 = .ok (.ireturn, 1) := by decide +kernel
theorem pd_L_next : (parseMethodDescriptor yL_next.desc).map (fun d => d.parameters.length) = some 3 := by decide +kernel
def w_L_next (zz : Nat → Nat) (a0 : Int) (a1 : Int) (a2 : Int) (h : AH) (Q : Int → AH → Prop) : Prop := (0 ≤ a1 ∧ 0 < (16 : Int)) ∧ (0 ≤ a0 ∧ 0 < (16 : Int)) ∧ inR ((a1 % (16 : Int)) - (a0 % (16 : Int))) ∧ ∀ x3_9 : Int, x3_9 = ((a1 % (16 : Int)) - (a0 % (16 : Int))) → (0 ≤ a1 ∧ 0 < (16 : Int)) ∧ (0 ≤ a0 ∧ 0 < (16 : Int)) ∧ inR ((a1 / (16 : Int)) - (a0 / (16 : Int))) ∧ ∀ x4_19 : Int, x4_19 = ((a1 / (16 : Int)) - (a0 / (16 : Int))) → jn (fun (t0_72 : Int) (h_72 : AH) => jn (fun (t0_107 : Int) (h_107 : AH) => Q t0_107 h_107) (fun k_107 : Int → AH → Prop => ((t0_72 = 0) → jn (fun (t1_106 : Int) (h_106 : AH) => inR (a0 + t1_106) ∧ k_107 (a0 + t1_106) h_106) (fun k_106 : Int → AH → Prop => ((0 ≤ x4_19) → k_106 (16 : Int) h_72) ∧ ((¬ (0 ≤ x4_19)) → k_106 (-16 : Int) h_72))) ∧ ((¬ (t0_72 = 0)) → jn (fun (t1_89 : Int) (h_89 : AH) => inR (a0 + t1_89) ∧ k_107 (a0 + t1_89) h_89) (fun k_89 : Int → AH → Prop => ((0 ≤ x3_9) → k_89 (1 : Int) h_72) ∧ ((¬ (0 ≤ x3_9)) → k_89 (-1 : Int) h_72))))) (fun k_72 : Int → AH → Prop => ((¬ a2 = 0) → ((¬ a2 = (1 : Int)) → w_L_abs zz x3_9 h (fun (r56 : Int) (h56 : AH) => w_L_abs zz x4_19 h56 (fun (r61 : Int) (h61 : AH) => ((r56 < r61) → k_72 (0 : Int) h61) ∧ ((¬ (r56 < r61)) → k_72 (1 : Int) h61)))) ∧ ((a2 = (1 : Int)) → ((¬ x4_19 = 0) → k_72 (0 : Int) h) ∧ ((x4_19 = 0) → k_72 (1 : Int) h))) ∧ ((a2 = 0) → ((x3_9 = 0) → k_72 (0 : Int) h) ∧ ((¬ (x3_9 = 0)) → k_72 (1 : Int) h)))
set_option maxRecDepth 100000 in
set_option maxHeartbeats 4000000 in
theorem met_L_next (G : GG) (l : Launch) : ∀ (As : List Value) (a0 : Int) (a1 : Int) (a2 : Int) (h : AH) (Q : Int → AH → Prop), As.map ab = List.map some ([vI a0, vI a1, vI a2] : List AV) → w_L_next G.2.2 a0 a1 a2 h Q → Met l yL_next (.code yL_next cL_next 6 (some .int) :: xTb) ({ frames := 1, cells := 0, slots := 0, locals := 20 } : Room) (PcA G As h) (QG G (oI Q)) 0 0 (frA G) := by
  intro As a0 a1 a2 h Q hA hw
  refine met_of hA (by decide) (Nat.le_of_ble_eq_true rfl) (fun p e s m args below meth c C hml hr hnm => ?_)
  unfold w_L_next at hw
  refine aw_iload_n (pc := 0) C dL_next_0 rfl rfl ?_
  refine aw_bipush (pc := 1) C dL_next_1 (i := (16 : Int)) (by decide) ?_
  obtain ⟨hp9, hw⟩ := hw
  refine aw_irem (pc := 3) C dL_next_3 hp9 ?_
  refine aw_iload_n (pc := 4) C dL_next_4 rfl rfl ?_
  refine aw_bipush (pc := 5) C dL_next_5 (i := (16 : Int)) (by decide) ?_
  obtain ⟨hp9, hw⟩ := hw
  refine aw_irem (pc := 7) C dL_next_7 hp9 ?_
  obtain ⟨hp9, hw⟩ := hw
  refine aw_isub (pc := 8) C dL_next_8 hp9 ?_
  refine aw_nmI (fun x3_9 e9 => ?_)
  have hw := hw x3_9 e9
  refine aw_istore_n (pc := 9) C dL_next_9 rfl (by rw [hml]; decide) ?_
  refine aw_iload_n (pc := 10) C dL_next_10 rfl rfl ?_
  refine aw_bipush (pc := 11) C dL_next_11 (i := (16 : Int)) (by decide) ?_
  obtain ⟨hp9, hw⟩ := hw
  refine aw_idiv (pc := 13) C dL_next_13 hp9 ?_
  refine aw_iload_n (pc := 14) C dL_next_14 rfl rfl ?_
  refine aw_bipush (pc := 15) C dL_next_15 (i := (16 : Int)) (by decide) ?_
  obtain ⟨hp9, hw⟩ := hw
  refine aw_idiv (pc := 17) C dL_next_17 hp9 ?_
  obtain ⟨hp9, hw⟩ := hw
  refine aw_isub (pc := 18) C dL_next_18 hp9 ?_
  refine aw_nmI (fun x4_19 e9 => ?_)
  have hw := hw x4_19 e9
  refine aw_istore (pc := 19) C dL_next_19 (by rw [hml]; decide) ?_
  refine aw_iload_n (pc := 21) C dL_next_21 rfl rfl ?_
  obtain ⟨k_72, hk_72, hw⟩ := jn_out hw
  have J_72 : ∀ (t0_72 : Int) (h_72 : AH), k_72 t0_72 h_72 → AW G p l e ({ frames := 1, cells := 0, slots := 0, locals := 20 } : Room) s m args below meth c 0 0 (MQ below (QG G (oI Q)) args s 0 0 (frA G)) 72 (eOf [(0, vI a0), (3, vI x3_9), (4, vI x4_19)]) [vI t0_72] h_72 := by
    intro t0_72 h_72 hw
    rw [hk_72] at hw
    refine aw_istore (pc := 72) C dL_next_72 (by rw [hml]; decide) ?_
    refine aw_iload (pc := 74) C dL_next_74 rfl ?_
    obtain ⟨k_107, hk_107, hw⟩ := jn_out hw
    have J_107 : ∀ (t0_107 : Int) (h_107 : AH), k_107 t0_107 h_107 → AW G p l e ({ frames := 1, cells := 0, slots := 0, locals := 20 } : Room) s m args below meth c 0 0 (MQ below (QG G (oI Q)) args s 0 0 (frA G)) 107 (eOf []) [vI t0_107] h_107 := by
      intro t0_107 h_107 hw
      rw [hk_107] at hw
      exact aw_iret (pc := 107) C hr dL_next_107 ⟨Nat.le_of_ble_eq_true rfl, Nat.le_of_ble_eq_true rfl⟩ ⟨_, rfl, hw⟩
    refine aw_if_eq (pc := 76) (tgt := 93) C dL_next_76 (by decide) (fun hc9 => ?_) (fun hc9 => ?_)
    · have hw := hw.1 hc9
      refine aw_iload_n (pc := 93) C dL_next_93 rfl rfl ?_
      refine aw_iload (pc := 94) C dL_next_94 rfl ?_
      obtain ⟨k_106, hk_106, hw⟩ := jn_out hw
      have J_106 : ∀ (t1_106 : Int) (h_106 : AH), k_106 t1_106 h_106 → AW G p l e ({ frames := 1, cells := 0, slots := 0, locals := 20 } : Room) s m args below meth c 0 0 (MQ below (QG G (oI Q)) args s 0 0 (frA G)) 106 (eOf []) [vI t1_106, vI a0] h_106 := by
        intro t1_106 h_106 hw
        rw [hk_106] at hw
        obtain ⟨hp9, hw⟩ := hw
        refine aw_iadd (pc := 106) C dL_next_106 hp9 ?_
        refine aw_sub [] trivial ?_
        exact J_107 _ _ hw
      refine aw_if_ge (pc := 96) (tgt := 104) C dL_next_96 (by decide) (fun hc9 => ?_) (fun hc9 => ?_)
      · have hw := hw.1 hc9
        refine aw_bipush (pc := 104) C dL_next_104 (i := (16 : Int)) (by decide) ?_
        refine aw_sub [] trivial ?_
        exact J_106 _ _ hw
      · have hw := hw.2 hc9
        refine aw_bipush (pc := 99) C dL_next_99 (i := (-16 : Int)) (by decide) ?_
        refine aw_goto (pc := 101) (tgt := 106) C dL_next_101 (by decide) ?_
        refine aw_sub [] trivial ?_
        exact J_106 _ _ hw
    · have hw := hw.2 hc9
      refine aw_iload_n (pc := 79) C dL_next_79 rfl rfl ?_
      refine aw_iload_n (pc := 80) C dL_next_80 rfl rfl ?_
      obtain ⟨k_89, hk_89, hw⟩ := jn_out hw
      have J_89 : ∀ (t1_89 : Int) (h_89 : AH), k_89 t1_89 h_89 → AW G p l e ({ frames := 1, cells := 0, slots := 0, locals := 20 } : Room) s m args below meth c 0 0 (MQ below (QG G (oI Q)) args s 0 0 (frA G)) 89 (eOf []) [vI t1_89, vI a0] h_89 := by
        intro t1_89 h_89 hw
        rw [hk_89] at hw
        obtain ⟨hp9, hw⟩ := hw
        refine aw_iadd (pc := 89) C dL_next_89 hp9 ?_
        refine aw_goto (pc := 90) (tgt := 107) C dL_next_90 (by decide) ?_
        refine aw_sub [] trivial ?_
        exact J_107 _ _ hw
      refine aw_if_ge (pc := 81) (tgt := 88) C dL_next_81 (by decide) (fun hc9 => ?_) (fun hc9 => ?_)
      · have hw := hw.1 hc9
        refine aw_iconst (pc := 88) C dL_next_88 (i := (1 : Int)) (by decide) ?_
        refine aw_sub [] trivial ?_
        exact J_89 _ _ hw
      · have hw := hw.2 hc9
        refine aw_iconst (pc := 84) C dL_next_84 (i := (-1 : Int)) (by decide) ?_
        refine aw_goto (pc := 85) (tgt := 89) C dL_next_85 (by decide) ?_
        refine aw_sub [] trivial ?_
        exact J_89 _ _ hw
  refine aw_if_ne (pc := 22) (tgt := 37) C dL_next_22 (by decide) (fun hc9 => ?_) (fun hc9 => ?_)
  · have hw := hw.1 hc9
    refine aw_iload_n (pc := 37) C dL_next_37 rfl rfl ?_
    refine aw_iconst (pc := 38) C dL_next_38 (i := (1 : Int)) (by decide) ?_
    refine aw_icmp_ne (pc := 39) (tgt := 55) C dL_next_39 (by decide) (fun hc9 => ?_) (fun hc9 => ?_)
    · have hw := hw.1 hc9
      refine aw_iload_n (pc := 55) C dL_next_55 rfl rfl ?_
      refine aw_callS (pc := 56) (as := [vI x3_9]) C (fun As hA => met_L_abs G l As x3_9 _ _ hA hw) tw465 tw466 tw0 tw467 ⟨rfl, rfl⟩ ⟨by decide, by decide, pd_L_abs⟩ ⟨Nat.le_of_ble_eq_true rfl, Nat.le_of_ble_eq_true rfl⟩ ⟨Nat.zero_le _, Nat.zero_le _⟩ (Nat.le_of_ble_eq_true rfl) dL_next_56 rfl (fun v9 h56 hq9 => ?_)
      obtain ⟨r56, rfl, hw⟩ := hq9
      refine aw_iload (pc := 59) C dL_next_59 rfl ?_
      refine aw_callS (pc := 61) (as := [vI x4_19]) C (fun As hA => met_L_abs G l As x4_19 _ _ hA hw) tw465 tw466 tw0 tw467 ⟨rfl, rfl⟩ ⟨by decide, by decide, pd_L_abs⟩ ⟨Nat.le_of_ble_eq_true rfl, Nat.le_of_ble_eq_true rfl⟩ ⟨Nat.zero_le _, Nat.zero_le _⟩ (Nat.le_of_ble_eq_true rfl) dL_next_61 rfl (fun v9 h61 hq9 => ?_)
      obtain ⟨r61, rfl, hw⟩ := hq9
      refine aw_icmp_lt (pc := 64) (tgt := 71) C dL_next_64 (by decide) (fun hc9 => ?_) (fun hc9 => ?_)
      · have hw := hw.1 hc9
        refine aw_iconst (pc := 71) C dL_next_71 (i := (0 : Int)) (by decide) ?_
        refine aw_sub [(0, vI a0), (3, vI x3_9), (4, vI x4_19)] ⟨rfl, rfl, rfl, trivial⟩ ?_
        exact J_72 _ _ hw
      · have hw := hw.2 hc9
        refine aw_iconst (pc := 67) C dL_next_67 (i := (1 : Int)) (by decide) ?_
        refine aw_goto (pc := 68) (tgt := 72) C dL_next_68 (by decide) ?_
        refine aw_sub [(0, vI a0), (3, vI x3_9), (4, vI x4_19)] ⟨rfl, rfl, rfl, trivial⟩ ?_
        exact J_72 _ _ hw
    · have hw := hw.2 hc9
      refine aw_iload (pc := 42) C dL_next_42 rfl ?_
      refine aw_if_ne (pc := 44) (tgt := 51) C dL_next_44 (by decide) (fun hc9 => ?_) (fun hc9 => ?_)
      · have hw := hw.1 hc9
        refine aw_iconst (pc := 51) C dL_next_51 (i := (0 : Int)) (by decide) ?_
        refine aw_goto (pc := 52) (tgt := 72) C dL_next_52 (by decide) ?_
        refine aw_sub [(0, vI a0), (3, vI x3_9), (4, vI x4_19)] ⟨rfl, rfl, rfl, trivial⟩ ?_
        exact J_72 _ _ hw
      · have hw := hw.2 hc9
        refine aw_iconst (pc := 47) C dL_next_47 (i := (1 : Int)) (by decide) ?_
        refine aw_goto (pc := 48) (tgt := 72) C dL_next_48 (by decide) ?_
        refine aw_sub [(0, vI a0), (3, vI x3_9), (4, vI x4_19)] ⟨rfl, rfl, rfl, trivial⟩ ?_
        exact J_72 _ _ hw
  · have hw := hw.2 hc9
    refine aw_iload_n (pc := 25) C dL_next_25 rfl rfl ?_
    refine aw_if_eq (pc := 26) (tgt := 33) C dL_next_26 (by decide) (fun hc9 => ?_) (fun hc9 => ?_)
    · have hw := hw.1 hc9
      refine aw_iconst (pc := 33) C dL_next_33 (i := (0 : Int)) (by decide) ?_
      refine aw_goto (pc := 34) (tgt := 72) C dL_next_34 (by decide) ?_
      refine aw_sub [(0, vI a0), (3, vI x3_9), (4, vI x4_19)] ⟨rfl, rfl, rfl, trivial⟩ ?_
      exact J_72 _ _ hw
    · have hw := hw.2 hc9
      refine aw_iconst (pc := 29) C dL_next_29 (i := (1 : Int)) (by decide) ?_
      refine aw_goto (pc := 30) (tgt := 72) C dL_next_30 (by decide) ?_
      refine aw_sub [(0, vI a0), (3, vI x3_9), (4, vI x4_19)] ⟨rfl, rfl, rfl, trivial⟩ ?_
      exact J_72 _ _ hw
theorem dL_move_0 : decode cL_move 0 = .ok (.iconst 0, 1) := by decide +kernel
theorem dL_move_1 : decode cL_move 1 = .ok (.istore 6, 2) := by decide +kernel
theorem dL_move_3 : decode cL_move 3 = .ok (.iconst 0, 1) := by decide +kernel
theorem dL_move_4 : decode cL_move 4 = .ok (.istore 7, 2) := by decide +kernel
theorem dL_move_6 : decode cL_move 6 = .ok (.iload 7, 2) := by decide +kernel
theorem dL_move_8 : decode cL_move 8 = .ok (.aload_n 1, 1) := by decide +kernel
theorem dL_move_9 : decode cL_move 9 = .ok (.iconst 0, 1) := by decide +kernel
theorem dL_move_10 : decode cL_move 10 = .ok (.iaload, 1) := by decide +kernel
theorem dL_move_11 : decode cL_move 11 = .ok (.if_icmp .ge 179, 3) := by decide +kernel
theorem dL_move_14 : decode cL_move 14 = .ok (.aload_n 3, 1) := by decide +kernel
theorem dL_move_15 : decode cL_move 15 = .ok (.iconst 2, 1) := by decide +kernel
theorem dL_move_16 : decode cL_move 16 = .ok (.iload 7, 2) := by decide +kernel
theorem dL_move_18 : decode cL_move 18 = .ok (.imul, 1) := by decide +kernel
theorem dL_move_19 : decode cL_move 19 = .ok (.iaload, 1) := by decide +kernel
theorem dL_move_20 : decode cL_move 20 = .ok (.ifCond .ge 7, 3) := by decide +kernel
theorem dL_move_23 : decode cL_move 23 = .ok (.iconst (-1), 1) := by decide +kernel
theorem dL_move_24 : decode cL_move 24 = .ok (.goto 13, 3) := by decide +kernel
theorem dL_move_27 : decode cL_move 27 = .ok (.aload_n 0, 1) := by decide +kernel
theorem dL_move_28 : decode cL_move 28 = .ok (.iconst 2, 1) := by decide +kernel
theorem dL_move_29 : decode cL_move 29 = .ok (.aload_n 3, 1) := by decide +kernel
theorem dL_move_30 : decode cL_move 30 = .ok (.iconst 2, 1) := by decide +kernel
theorem dL_move_31 : decode cL_move 31 = .ok (.iload 7, 2) := by decide +kernel
theorem dL_move_33 : decode cL_move 33 = .ok (.imul, 1) := by decide +kernel
theorem dL_move_34 : decode cL_move 34 = .ok (.iaload, 1) := by decide +kernel
theorem dL_move_35 : decode cL_move 35 = .ok (.imul, 1) := by decide +kernel
theorem dL_move_36 : decode cL_move 36 = .ok (.iaload, 1) := by decide +kernel
theorem dL_move_37 : decode cL_move 37 = .ok (.istore 8, 2) := by decide +kernel
theorem dL_move_39 : decode cL_move 39 = .ok (.iload 8, 2) := by decide +kernel
theorem dL_move_41 : decode cL_move 41 = .ok (.ifCond .lt 143, 3) := by decide +kernel
theorem dL_move_44 : decode cL_move 44 = .ok (.aload 4, 2) := by decide +kernel
theorem dL_move_46 : decode cL_move 46 = .ok (.iload 7, 2) := by decide +kernel
theorem dL_move_48 : decode cL_move 48 = .ok (.iaload, 1) := by decide +kernel
theorem dL_move_49 : decode cL_move 49 = .ok (.iload 8, 2) := by decide +kernel
theorem dL_move_51 : decode cL_move 51 = .ok (.if_icmp .ne 6, 3) := by decide +kernel
theorem dL_move_54 : decode cL_move 54 = .ok (.goto 130, 3) := by decide +kernel
theorem dL_move_57 : decode cL_move 57 = .ok (.aload 4, 2) := by decide +kernel
theorem dL_move_59 : decode cL_move 59 = .ok (.iload 7, 2) := by decide +kernel
theorem dL_move_61 : decode cL_move 61 = .ok (.iaload, 1) := by decide +kernel
theorem dL_move_62 : decode cL_move 62 = .ok (.iload 8, 2) := by decide +kernel
theorem dL_move_64 : decode cL_move 64 = .ok (.aload_n 2, 1) := by decide +kernel
theorem dL_move_65 : decode cL_move 65 = .ok (.iconst 4, 1) := by decide +kernel
theorem dL_move_66 : decode cL_move 66 = .ok (.iaload, 1) := by decide +kernel
theorem dL_move_67 : decode cL_move 67 = .ok (.invokestatic 30, 3) := by decide +kernel
theorem dL_move_70 : decode cL_move 70 = .ok (.istore 9, 2) := by decide +kernel
theorem dL_move_72 : decode cL_move 72 = .ok (.iconst 0, 1) := by decide +kernel
theorem dL_move_73 : decode cL_move 73 = .ok (.istore 10, 2) := by decide +kernel
theorem dL_move_75 : decode cL_move 75 = .ok (.iconst 0, 1) := by decide +kernel
theorem dL_move_76 : decode cL_move 76 = .ok (.istore 11, 2) := by decide +kernel
theorem dL_move_78 : decode cL_move 78 = .ok (.iload 11, 2) := by decide +kernel
theorem dL_move_80 : decode cL_move 80 = .ok (.aload_n 1, 1) := by decide +kernel
theorem dL_move_81 : decode cL_move 81 = .ok (.iconst 0, 1) := by decide +kernel
theorem dL_move_82 : decode cL_move 82 = .ok (.iaload, 1) := by decide +kernel
theorem dL_move_83 : decode cL_move 83 = .ok (.if_icmp .ge 38, 3) := by decide +kernel
theorem dL_move_86 : decode cL_move 86 = .ok (.iload 10, 2) := by decide +kernel
theorem dL_move_88 : decode cL_move 88 = .ok (.ifCond .ne 20, 3) := by decide +kernel
theorem dL_move_91 : decode cL_move 91 = .ok (.iload 11, 2) := by decide +kernel
theorem dL_move_93 : decode cL_move 93 = .ok (.iload 7, 2) := by decide +kernel
theorem dL_move_95 : decode cL_move 95 = .ok (.if_icmp .eq 17, 3) := by decide +kernel
theorem dL_move_98 : decode cL_move 98 = .ok (.aload 4, 2) := by decide +kernel
theorem dL_move_100 : decode cL_move 100 = .ok (.iload 11, 2) := by decide +kernel
theorem dL_move_102 : decode cL_move 102 = .ok (.iaload, 1) := by decide +kernel
theorem dL_move_103 : decode cL_move 103 = .ok (.iload 9, 2) := by decide +kernel
theorem dL_move_105 : decode cL_move 105 = .ok (.if_icmp .ne 7, 3) := by decide +kernel
theorem dL_move_108 : decode cL_move 108 = .ok (.iconst 1, 1) := by decide +kernel
theorem dL_move_109 : decode cL_move 109 = .ok (.goto 4, 3) := by decide +kernel
theorem dL_move_112 : decode cL_move 112 = .ok (.iconst 0, 1) := by decide +kernel
theorem dL_move_113 : decode cL_move 113 = .ok (.istore 10, 2) := by decide +kernel
theorem dL_move_115 : decode cL_move 115 = .ok (.iinc 11 1, 3) := by decide +kernel
theorem dL_move_118 : decode cL_move 118 = .ok (.goto (-40), 3) := by decide +kernel
theorem dL_move_121 : decode cL_move 121 = .ok (.iload 10, 2) := by decide +kernel
theorem dL_move_123 : decode cL_move 123 = .ok (.ifCond .eq 46, 3) := by decide +kernel
theorem dL_move_126 : decode cL_move 126 = .ok (.aload 5, 2) := by decide +kernel
theorem dL_move_128 : decode cL_move 128 = .ok (.iconst 2, 1) := by decide +kernel
theorem dL_move_129 : decode cL_move 129 = .ok (.iload 7, 2) := by decide +kernel
theorem dL_move_131 : decode cL_move 131 = .ok (.imul, 1) := by decide +kernel
theorem dL_move_132 : decode cL_move 132 = .ok (.iaload, 1) := by decide +kernel
theorem dL_move_133 : decode cL_move 133 = .ok (.aload_n 2, 1) := by decide +kernel
theorem dL_move_134 : decode cL_move 134 = .ok (.iconst 5, 1) := by decide +kernel
theorem dL_move_135 : decode cL_move 135 = .ok (.iaload, 1) := by decide +kernel
theorem dL_move_136 : decode cL_move 136 = .ok (.if_icmp .ge 33, 3) := by decide +kernel
theorem dL_move_139 : decode cL_move 139 = .ok (.aload 5, 2) := by decide +kernel
theorem dL_move_141 : decode cL_move 141 = .ok (.iconst 2, 1) := by decide +kernel
theorem dL_move_142 : decode cL_move 142 = .ok (.iload 7, 2) := by decide +kernel
theorem dL_move_144 : decode cL_move 144 = .ok (.imul, 1) := by decide +kernel
theorem dL_move_145 : decode cL_move 145 = .ok (.dup2, 1) := by decide +kernel
theorem dL_move_146 : decode cL_move 146 = .ok (.iaload, 1) := by decide +kernel
theorem dL_move_147 : decode cL_move 147 = .ok (.iconst 1, 1) := by decide +kernel
theorem dL_move_148 : decode cL_move 148 = .ok (.iadd, 1) := by decide +kernel
theorem dL_move_149 : decode cL_move 149 = .ok (.iastore, 1) := by decide +kernel
theorem dL_move_150 : decode cL_move 150 = .ok (.aload 5, 2) := by decide +kernel
theorem dL_move_152 : decode cL_move 152 = .ok (.iconst 2, 1) := by decide +kernel
theorem dL_move_153 : decode cL_move 153 = .ok (.iload 7, 2) := by decide +kernel
theorem dL_move_155 : decode cL_move 155 = .ok (.imul, 1) := by decide +kernel
theorem dL_move_156 : decode cL_move 156 = .ok (.iconst 1, 1) := by decide +kernel
theorem dL_move_157 : decode cL_move 157 = .ok (.iadd, 1) := by decide +kernel
theorem dL_move_158 : decode cL_move 158 = .ok (.dup2, 1) := by decide +kernel
theorem dL_move_159 : decode cL_move 159 = .ok (.iaload, 1) := by decide +kernel
theorem dL_move_160 : decode cL_move 160 = .ok (.iconst 1, 1) := by decide +kernel
theorem dL_move_161 : decode cL_move 161 = .ok (.iadd, 1) := by decide +kernel
theorem dL_move_162 : decode cL_move 162 = .ok (.iastore, 1) := by decide +kernel
theorem dL_move_163 : decode cL_move 163 = .ok (.iinc 6 1, 3) := by decide +kernel
theorem dL_move_166 : decode cL_move 166 = .ok (.goto 18, 3) := by decide +kernel
theorem dL_move_169 : decode cL_move 169 = .ok (.aload 5, 2) := by decide +kernel
theorem dL_move_171 : decode cL_move 171 = .ok (.iconst 2, 1) := by decide +kernel
theorem dL_move_172 : decode cL_move 172 = .ok (.iload 7, 2) := by decide +kernel
theorem dL_move_174 : decode cL_move 174 = .ok (.imul, 1) := by decide +kernel
theorem dL_move_175 : decode cL_move 175 = .ok (.iconst 0, 1) := by decide +kernel
theorem dL_move_176 : decode cL_move 176 = .ok (.iastore, 1) := by decide +kernel
theorem dL_move_177 : decode cL_move 177 = .ok (.aload 4, 2) := by decide +kernel
theorem dL_move_179 : decode cL_move 179 = .ok (.iload 7, 2) := by decide +kernel
theorem dL_move_181 : decode cL_move 181 = .ok (.iload 9, 2) := by decide +kernel
theorem dL_move_183 : decode cL_move 183 = .ok (.iastore, 1) := by decide +kernel
theorem dL_move_184 : decode cL_move 184 = .ok (.iinc 7 1, 3) := by decide +kernel
theorem dL_move_187 : decode cL_move 187 = .ok (.goto (-181), 3) := by decide +kernel
theorem dL_move_190 : decode cL_move 190 = .ok (.iload 6, 2) := by decide +kernel
theorem dL_move_192 : decode cL_move 192 = .ok (.ireturn, 1) := by decide +kernel
theorem pd_L_move : (parseMethodDescriptor yL_move.desc).map (fun d => d.parameters.length) = some 6 := by decide +kernel
def w_L_move (zz : Nat → Nat) (a0 : Nat) (a1 : Nat) (a2 : Nat) (a3 : Nat) (a4 : Nat) (a5 : Nat) (h : AH) (Q : Int → AH → Prop) : Prop := ∃ I_6 : Nat → Int → Int → AH → Prop, (∃ n, I_6 n (0 : Int) (0 : Int) h) ∧ ∀ (n_6 : Nat) (x6_6 : Int) (x7_6 : Int) (h_6 : AH), I_6 n_6 x6_6 x7_6 h_6 → (okI h_6 a1 (0 : Int) ∧ (((haI h_6 a1 (0 : Int)) ≤ x7_6) → Q x6_6 h_6) ∧ ((¬ ((haI h_6 a1 (0 : Int)) ≤ x7_6)) → inR ((2 : Int) * x7_6) ∧ okI h_6 a3 ((2 : Int) * x7_6) ∧ jn (fun (t0_37 : Int) (h_37 : AH) => jn (fun (x6_184 : Int) (h_184 : AH) => inR (x7_6 + 1) ∧ ∀ x7_184 : Int, x7_184 = (x7_6 + 1) → ∃ m, m < n_6 ∧ I_6 m x6_184 x7_184 h_184) (fun k_184 : Int → AH → Prop => ((t0_37 < 0) → k_184 x6_6 h_37) ∧ ((¬ (t0_37 < 0)) → okI h_37 a4 x7_6 ∧ ((¬ (haI h_37 a4 x7_6) = t0_37) → okI h_37 a4 x7_6 ∧ okI h_37 a2 (4 : Int) ∧ w_L_next zz (haI h_37 a4 x7_6) t0_37 (haI h_37 a2 (4 : Int)) h_37 (fun (r67 : Int) (h67 : AH) => ∃ I_78 : Nat → Int → Int → AH → Prop, (∃ n, I_78 n (0 : Int) (0 : Int) h67) ∧ ∀ (n_78 : Nat) (x10_78 : Int) (x11_78 : Int) (h_78 : AH), I_78 n_78 x10_78 x11_78 h_78 → (okI h_78 a1 (0 : Int) ∧ (((haI h_78 a1 (0 : Int)) ≤ x11_78) → jn (fun  (h_169 : AH) => inR ((2 : Int) * x7_6) ∧ okW h_169 a5 ((2 : Int) * x7_6) ∧ ∀ h176 : AH, h176 = saI h_169 a5 (u1 (haI h_169 a5) ((2 : Int) * x7_6) (0 : Int)) → okW h176 a4 x7_6 ∧ ∀ h183 : AH, h183 = saI h176 a4 (u1 (haI h176 a4) x7_6 r67) → k_184 x6_6 h183) (fun k_169 : AH → Prop => ((x10_78 = 0) → k_169  h_78) ∧ ((¬ (x10_78 = 0)) → inR ((2 : Int) * x7_6) ∧ okI h_78 a5 ((2 : Int) * x7_6) ∧ okI h_78 a2 (5 : Int) ∧ (((haI h_78 a2 (5 : Int)) ≤ (haI h_78 a5 ((2 : Int) * x7_6))) → k_169  h_78) ∧ ((¬ ((haI h_78 a2 (5 : Int)) ≤ (haI h_78 a5 ((2 : Int) * x7_6)))) → inR ((2 : Int) * x7_6) ∧ okI h_78 a5 ((2 : Int) * x7_6) ∧ inR ((haI h_78 a5 ((2 : Int) * x7_6)) + (1 : Int)) ∧ okW h_78 a5 ((2 : Int) * x7_6) ∧ ∀ h149 : AH, h149 = saI h_78 a5 (u1 (haI h_78 a5) ((2 : Int) * x7_6) ((haI h_78 a5 ((2 : Int) * x7_6)) + (1 : Int))) → inR ((2 : Int) * x7_6) ∧ inR (((2 : Int) * x7_6) + (1 : Int)) ∧ okI h149 a5 (((2 : Int) * x7_6) + (1 : Int)) ∧ inR ((haI h149 a5 (((2 : Int) * x7_6) + (1 : Int))) + (1 : Int)) ∧ okW h149 a5 (((2 : Int) * x7_6) + (1 : Int)) ∧ ∀ h162 : AH, h162 = saI h149 a5 (u1 (haI h149 a5) (((2 : Int) * x7_6) + (1 : Int)) ((haI h149 a5 (((2 : Int) * x7_6) + (1 : Int))) + (1 : Int))) → inR (x6_6 + 1) ∧ ∀ x6_163 : Int, x6_163 = (x6_6 + 1) → k_184 x6_163 h162)))) ∧ ((¬ ((haI h_78 a1 (0 : Int)) ≤ x11_78)) → jn (fun (t0_113 : Int) (h_113 : AH) => inR (x11_78 + 1) ∧ ∀ x11_115 : Int, x11_115 = (x11_78 + 1) → ∃ m, m < n_78 ∧ I_78 m t0_113 x11_115 h_113) (fun k_113 : Int → AH → Prop => jn (fun  (h_108 : AH) => k_113 (1 : Int) h_108) (fun k_108 : AH → Prop => ((¬ x10_78 = 0) → k_108  h_78) ∧ ((x10_78 = 0) → jn (fun  (h_112 : AH) => k_113 (0 : Int) h_112) (fun k_112 : AH → Prop => ((x11_78 = x7_6) → k_112  h_78) ∧ ((¬ (x11_78 = x7_6)) → okI h_78 a4 x11_78 ∧ ((¬ (haI h_78 a4 x11_78) = r67) → k_112  h_78) ∧ (((haI h_78 a4 x11_78) = r67) → k_108  h_78)))))))))) ∧ (((haI h_37 a4 x7_6) = t0_37) → k_184 x6_6 h_37)))) (fun k_37 : Int → AH → Prop => ((0 ≤ (haI h_6 a3 ((2 : Int) * x7_6))) → inR ((2 : Int) * x7_6) ∧ okI h_6 a3 ((2 : Int) * x7_6) ∧ inR ((2 : Int) * (haI h_6 a3 ((2 : Int) * x7_6))) ∧ okI h_6 a0 ((2 : Int) * (haI h_6 a3 ((2 : Int) * x7_6))) ∧ k_37 (haI h_6 a0 ((2 : Int) * (haI h_6 a3 ((2 : Int) * x7_6)))) h_6) ∧ ((¬ (0 ≤ (haI h_6 a3 ((2 : Int) * x7_6)))) → k_37 (-1 : Int) h_6))))
set_option maxRecDepth 100000 in
set_option maxHeartbeats 4000000 in
theorem met_L_move (G : GG) (l : Launch) : ∀ (As : List Value) (a0 : Nat) (a1 : Nat) (a2 : Nat) (a3 : Nat) (a4 : Nat) (a5 : Nat) (h : AH) (Q : Int → AH → Prop), As.map ab = List.map some ([vR a0, vR a1, vR a2, vR a3, vR a4, vR a5] : List AV) → w_L_move G.2.2 a0 a1 a2 a3 a4 a5 h Q → Met l yL_move (.code yL_move cL_move 12 (some .int) :: xTb) ({ frames := 2, cells := 0, slots := 0, locals := 45 } : Room) (PcA G As h) (QG G (oI Q)) 0 0 (frA G) := by
  intro As a0 a1 a2 a3 a4 a5 h Q hA hw
  refine met_of hA (by decide) (Nat.le_of_ble_eq_true rfl) (fun p e s m args below meth c C hml hr hnm => ?_)
  unfold w_L_move at hw
  refine aw_iconst (pc := 0) C dL_move_0 (i := (0 : Int)) (by decide) ?_
  refine aw_istore (pc := 1) C dL_move_1 (by rw [hml]; decide) ?_
  refine aw_iconst (pc := 3) C dL_move_3 (i := (0 : Int)) (by decide) ?_
  refine aw_istore (pc := 4) C dL_move_4 (by rw [hml]; decide) ?_
  obtain ⟨I_6, ⟨n9, hi9⟩, hst9⟩ := hw
  have L_6 : ∀ (n_6 : Nat) (x6_6 : Int) (x7_6 : Int) (h_6 : AH), I_6 n_6 x6_6 x7_6 h_6 → AW G p l e ({ frames := 2, cells := 0, slots := 0, locals := 45 } : Room) s m args below meth c 0 0 (MQ below (QG G (oI Q)) args s 0 0 (frA G)) 6 (eOf [(0, vR a0), (1, vR a1), (2, vR a2), (3, vR a3), (4, vR a4), (5, vR a5), (6, vI x6_6), (7, vI x7_6)]) [] h_6 := by
    intro n_6
    induction n_6 using Nat.strongRecOn with
    | _ n_6 ih_6 =>
    intro x6_6 x7_6 h_6 hi9
    have hw := hst9 n_6 x6_6 x7_6 h_6 hi9
    refine aw_iload (pc := 6) C dL_move_6 rfl ?_
    refine aw_aload_n (pc := 8) C dL_move_8 rfl rfl ?_
    refine aw_iconst (pc := 9) C dL_move_9 (i := (0 : Int)) (by decide) ?_
    obtain ⟨⟨k9, hp9⟩, hw⟩ := hw
    refine aw_iald (pc := 10) C dL_move_10 hp9 ?_
    refine aw_icmp_ge (pc := 11) (tgt := 190) C dL_move_11 (by decide) (fun hc9 => ?_) (fun hc9 => ?_)
    · have hw := hw.1 hc9
      refine aw_iload (pc := 190) C dL_move_190 rfl ?_
      exact aw_iret (pc := 192) C hr dL_move_192 ⟨Nat.le_of_ble_eq_true rfl, Nat.le_of_ble_eq_true rfl⟩ ⟨_, rfl, hw⟩
    · have hw := hw.2 hc9
      refine aw_aload_n (pc := 14) C dL_move_14 rfl rfl ?_
      refine aw_iconst (pc := 15) C dL_move_15 (i := (2 : Int)) (by decide) ?_
      refine aw_iload (pc := 16) C dL_move_16 rfl ?_
      obtain ⟨hp9, hw⟩ := hw
      refine aw_imul (pc := 18) C dL_move_18 hp9 ?_
      obtain ⟨⟨k9, hp9⟩, hw⟩ := hw
      refine aw_iald (pc := 19) C dL_move_19 hp9 ?_
      obtain ⟨k_37, hk_37, hw⟩ := jn_out hw
      have J_37 : ∀ (t0_37 : Int) (h_37 : AH), k_37 t0_37 h_37 → AW G p l e ({ frames := 2, cells := 0, slots := 0, locals := 45 } : Room) s m args below meth c 0 0 (MQ below (QG G (oI Q)) args s 0 0 (frA G)) 37 (eOf [(0, vR a0), (1, vR a1), (2, vR a2), (3, vR a3), (4, vR a4), (5, vR a5), (6, vI x6_6), (7, vI x7_6)]) [vI t0_37] h_37 := by
        intro t0_37 h_37 hw
        rw [hk_37] at hw
        refine aw_istore (pc := 37) C dL_move_37 (by rw [hml]; decide) ?_
        refine aw_iload (pc := 39) C dL_move_39 rfl ?_
        obtain ⟨k_184, hk_184, hw⟩ := jn_out hw
        have J_184 : ∀ (x6_184 : Int) (h_184 : AH), k_184 x6_184 h_184 → AW G p l e ({ frames := 2, cells := 0, slots := 0, locals := 45 } : Room) s m args below meth c 0 0 (MQ below (QG G (oI Q)) args s 0 0 (frA G)) 184 (eOf [(0, vR a0), (1, vR a1), (2, vR a2), (3, vR a3), (4, vR a4), (5, vR a5), (6, vI x6_184), (7, vI x7_6)]) [] h_184 := by
          intro x6_184 h_184 hw
          rw [hk_184] at hw
          obtain ⟨hp9, hw⟩ := hw
          refine aw_iincN (pc := 184) C dL_move_184 (k := 1) (by decide) rfl (by rw [hml]; decide) hp9 (fun x7_184 e9 => ?_)
          have hw := hw x7_184 e9
          refine aw_goto (pc := 187) (tgt := 6) C dL_move_187 (by decide) ?_
          obtain ⟨m9, hm9, hw⟩ := hw
          refine aw_sub [(0, vR a0), (1, vR a1), (2, vR a2), (3, vR a3), (4, vR a4), (5, vR a5), (6, vI x6_184), (7, vI x7_184)] ⟨rfl, rfl, rfl, rfl, rfl, rfl, rfl, rfl, trivial⟩ ?_
          exact ih_6 m9 hm9 _ _ _ hw
        refine aw_if_lt (pc := 41) (tgt := 184) C dL_move_41 (by decide) (fun hc9 => ?_) (fun hc9 => ?_)
        · have hw := hw.1 hc9
          refine aw_sub [(0, vR a0), (1, vR a1), (2, vR a2), (3, vR a3), (4, vR a4), (5, vR a5), (6, vI x6_6), (7, vI x7_6)] ⟨rfl, rfl, rfl, rfl, rfl, rfl, rfl, rfl, trivial⟩ ?_
          exact J_184 _ _ hw
        · have hw := hw.2 hc9
          refine aw_aload (pc := 44) C dL_move_44 rfl ?_
          refine aw_iload (pc := 46) C dL_move_46 rfl ?_
          obtain ⟨⟨k9, hp9⟩, hw⟩ := hw
          refine aw_iald (pc := 48) C dL_move_48 hp9 ?_
          refine aw_iload (pc := 49) C dL_move_49 rfl ?_
          refine aw_icmp_ne (pc := 51) (tgt := 57) C dL_move_51 (by decide) (fun hc9 => ?_) (fun hc9 => ?_)
          · have hw := hw.1 hc9
            refine aw_aload (pc := 57) C dL_move_57 rfl ?_
            refine aw_iload (pc := 59) C dL_move_59 rfl ?_
            obtain ⟨⟨k9, hp9⟩, hw⟩ := hw
            refine aw_iald (pc := 61) C dL_move_61 hp9 ?_
            refine aw_iload (pc := 62) C dL_move_62 rfl ?_
            refine aw_aload_n (pc := 64) C dL_move_64 rfl rfl ?_
            refine aw_iconst (pc := 65) C dL_move_65 (i := (4 : Int)) (by decide) ?_
            obtain ⟨⟨k9, hp9⟩, hw⟩ := hw
            refine aw_iald (pc := 66) C dL_move_66 hp9 ?_
            refine aw_callS (pc := 67) (as := [vI (haI h_37 a4 x7_6), vI t0_37, vI (haI h_37 a2 (4 : Int))]) C (fun As hA => met_L_next G l As (haI h_37 a4 x7_6) t0_37 (haI h_37 a2 (4 : Int)) _ _ hA hw) tw594 tw595 tw0 tw596 ⟨rfl, rfl⟩ ⟨by decide, by decide, pd_L_next⟩ ⟨Nat.le_of_ble_eq_true rfl, Nat.le_of_ble_eq_true rfl⟩ ⟨Nat.zero_le _, Nat.zero_le _⟩ (Nat.le_of_ble_eq_true rfl) dL_move_67 rfl (fun v9 h67 hq9 => ?_)
            obtain ⟨r67, rfl, hw⟩ := hq9
            refine aw_istore (pc := 70) C dL_move_70 (by rw [hml]; decide) ?_
            refine aw_iconst (pc := 72) C dL_move_72 (i := (0 : Int)) (by decide) ?_
            refine aw_istore (pc := 73) C dL_move_73 (by rw [hml]; decide) ?_
            refine aw_iconst (pc := 75) C dL_move_75 (i := (0 : Int)) (by decide) ?_
            refine aw_istore (pc := 76) C dL_move_76 (by rw [hml]; decide) ?_
            obtain ⟨I_78, ⟨n9, hi9⟩, hst9⟩ := hw
            have L_78 : ∀ (n_78 : Nat) (x10_78 : Int) (x11_78 : Int) (h_78 : AH), I_78 n_78 x10_78 x11_78 h_78 → AW G p l e ({ frames := 2, cells := 0, slots := 0, locals := 45 } : Room) s m args below meth c 0 0 (MQ below (QG G (oI Q)) args s 0 0 (frA G)) 78 (eOf [(0, vR a0), (1, vR a1), (2, vR a2), (3, vR a3), (4, vR a4), (5, vR a5), (6, vI x6_6), (7, vI x7_6), (9, vI r67), (10, vI x10_78), (11, vI x11_78)]) [] h_78 := by
              intro n_78
              induction n_78 using Nat.strongRecOn with
              | _ n_78 ih_78 =>
              intro x10_78 x11_78 h_78 hi9
              have hw := hst9 n_78 x10_78 x11_78 h_78 hi9
              refine aw_iload (pc := 78) C dL_move_78 rfl ?_
              refine aw_aload_n (pc := 80) C dL_move_80 rfl rfl ?_
              refine aw_iconst (pc := 81) C dL_move_81 (i := (0 : Int)) (by decide) ?_
              obtain ⟨⟨k9, hp9⟩, hw⟩ := hw
              refine aw_iald (pc := 82) C dL_move_82 hp9 ?_
              refine aw_icmp_ge (pc := 83) (tgt := 121) C dL_move_83 (by decide) (fun hc9 => ?_) (fun hc9 => ?_)
              · have hw := hw.1 hc9
                refine aw_iload (pc := 121) C dL_move_121 rfl ?_
                obtain ⟨k_169, hk_169, hw⟩ := jn_out hw
                have J_169 : ∀  (h_169 : AH), k_169  h_169 → AW G p l e ({ frames := 2, cells := 0, slots := 0, locals := 45 } : Room) s m args below meth c 0 0 (MQ below (QG G (oI Q)) args s 0 0 (frA G)) 169 (eOf [(0, vR a0), (1, vR a1), (2, vR a2), (3, vR a3), (4, vR a4), (5, vR a5), (6, vI x6_6), (7, vI x7_6), (9, vI r67)]) [] h_169 := by
                  intro  h_169 hw
                  rw [hk_169] at hw
                  refine aw_aload (pc := 169) C dL_move_169 rfl ?_
                  refine aw_iconst (pc := 171) C dL_move_171 (i := (2 : Int)) (by decide) ?_
                  refine aw_iload (pc := 172) C dL_move_172 rfl ?_
                  obtain ⟨hp9, hw⟩ := hw
                  refine aw_imul (pc := 174) C dL_move_174 hp9 ?_
                  refine aw_iconst (pc := 175) C dL_move_175 (i := (0 : Int)) (by decide) ?_
                  obtain ⟨⟨k9, hp9⟩, hw⟩ := hw
                  refine aw_iast (pc := 176) C dL_move_176 hp9 (aw_nmH (fun h176 e9 => ?_))
                  have hw := hw h176 e9
                  refine aw_aload (pc := 177) C dL_move_177 rfl ?_
                  refine aw_iload (pc := 179) C dL_move_179 rfl ?_
                  refine aw_iload (pc := 181) C dL_move_181 rfl ?_
                  obtain ⟨⟨k9, hp9⟩, hw⟩ := hw
                  refine aw_iast (pc := 183) C dL_move_183 hp9 (aw_nmH (fun h183 e9 => ?_))
                  have hw := hw h183 e9
                  refine aw_sub [(0, vR a0), (1, vR a1), (2, vR a2), (3, vR a3), (4, vR a4), (5, vR a5), (6, vI x6_6), (7, vI x7_6)] ⟨rfl, rfl, rfl, rfl, rfl, rfl, rfl, rfl, trivial⟩ ?_
                  exact J_184 _ _ hw
                refine aw_if_eq (pc := 123) (tgt := 169) C dL_move_123 (by decide) (fun hc9 => ?_) (fun hc9 => ?_)
                · have hw := hw.1 hc9
                  refine aw_sub [(0, vR a0), (1, vR a1), (2, vR a2), (3, vR a3), (4, vR a4), (5, vR a5), (6, vI x6_6), (7, vI x7_6), (9, vI r67)] ⟨rfl, rfl, rfl, rfl, rfl, rfl, rfl, rfl, rfl, trivial⟩ ?_
                  exact J_169  _ hw
                · have hw := hw.2 hc9
                  refine aw_aload (pc := 126) C dL_move_126 rfl ?_
                  refine aw_iconst (pc := 128) C dL_move_128 (i := (2 : Int)) (by decide) ?_
                  refine aw_iload (pc := 129) C dL_move_129 rfl ?_
                  obtain ⟨hp9, hw⟩ := hw
                  refine aw_imul (pc := 131) C dL_move_131 hp9 ?_
                  obtain ⟨⟨k9, hp9⟩, hw⟩ := hw
                  refine aw_iald (pc := 132) C dL_move_132 hp9 ?_
                  refine aw_aload_n (pc := 133) C dL_move_133 rfl rfl ?_
                  refine aw_iconst (pc := 134) C dL_move_134 (i := (5 : Int)) (by decide) ?_
                  obtain ⟨⟨k9, hp9⟩, hw⟩ := hw
                  refine aw_iald (pc := 135) C dL_move_135 hp9 ?_
                  refine aw_icmp_ge (pc := 136) (tgt := 169) C dL_move_136 (by decide) (fun hc9 => ?_) (fun hc9 => ?_)
                  · have hw := hw.1 hc9
                    refine aw_sub [(0, vR a0), (1, vR a1), (2, vR a2), (3, vR a3), (4, vR a4), (5, vR a5), (6, vI x6_6), (7, vI x7_6), (9, vI r67)] ⟨rfl, rfl, rfl, rfl, rfl, rfl, rfl, rfl, rfl, trivial⟩ ?_
                    exact J_169  _ hw
                  · have hw := hw.2 hc9
                    refine aw_aload (pc := 139) C dL_move_139 rfl ?_
                    refine aw_iconst (pc := 141) C dL_move_141 (i := (2 : Int)) (by decide) ?_
                    refine aw_iload (pc := 142) C dL_move_142 rfl ?_
                    obtain ⟨hp9, hw⟩ := hw
                    refine aw_imul (pc := 144) C dL_move_144 hp9 ?_
                    refine aw_dup2 (pc := 145) C dL_move_145 rfl rfl ?_
                    obtain ⟨⟨k9, hp9⟩, hw⟩ := hw
                    refine aw_iald (pc := 146) C dL_move_146 hp9 ?_
                    refine aw_iconst (pc := 147) C dL_move_147 (i := (1 : Int)) (by decide) ?_
                    obtain ⟨hp9, hw⟩ := hw
                    refine aw_iadd (pc := 148) C dL_move_148 hp9 ?_
                    obtain ⟨⟨k9, hp9⟩, hw⟩ := hw
                    refine aw_iast (pc := 149) C dL_move_149 hp9 (aw_nmH (fun h149 e9 => ?_))
                    have hw := hw h149 e9
                    refine aw_aload (pc := 150) C dL_move_150 rfl ?_
                    refine aw_iconst (pc := 152) C dL_move_152 (i := (2 : Int)) (by decide) ?_
                    refine aw_iload (pc := 153) C dL_move_153 rfl ?_
                    obtain ⟨hp9, hw⟩ := hw
                    refine aw_imul (pc := 155) C dL_move_155 hp9 ?_
                    refine aw_iconst (pc := 156) C dL_move_156 (i := (1 : Int)) (by decide) ?_
                    obtain ⟨hp9, hw⟩ := hw
                    refine aw_iadd (pc := 157) C dL_move_157 hp9 ?_
                    refine aw_dup2 (pc := 158) C dL_move_158 rfl rfl ?_
                    obtain ⟨⟨k9, hp9⟩, hw⟩ := hw
                    refine aw_iald (pc := 159) C dL_move_159 hp9 ?_
                    refine aw_iconst (pc := 160) C dL_move_160 (i := (1 : Int)) (by decide) ?_
                    obtain ⟨hp9, hw⟩ := hw
                    refine aw_iadd (pc := 161) C dL_move_161 hp9 ?_
                    obtain ⟨⟨k9, hp9⟩, hw⟩ := hw
                    refine aw_iast (pc := 162) C dL_move_162 hp9 (aw_nmH (fun h162 e9 => ?_))
                    have hw := hw h162 e9
                    obtain ⟨hp9, hw⟩ := hw
                    refine aw_iincN (pc := 163) C dL_move_163 (k := 1) (by decide) rfl (by rw [hml]; decide) hp9 (fun x6_163 e9 => ?_)
                    have hw := hw x6_163 e9
                    refine aw_goto (pc := 166) (tgt := 184) C dL_move_166 (by decide) ?_
                    refine aw_sub [(0, vR a0), (1, vR a1), (2, vR a2), (3, vR a3), (4, vR a4), (5, vR a5), (6, vI x6_163), (7, vI x7_6)] ⟨rfl, rfl, rfl, rfl, rfl, rfl, rfl, rfl, trivial⟩ ?_
                    exact J_184 _ _ hw
              · have hw := hw.2 hc9
                refine aw_iload (pc := 86) C dL_move_86 rfl ?_
                obtain ⟨k_113, hk_113, hw⟩ := jn_out hw
                have J_113 : ∀ (t0_113 : Int) (h_113 : AH), k_113 t0_113 h_113 → AW G p l e ({ frames := 2, cells := 0, slots := 0, locals := 45 } : Room) s m args below meth c 0 0 (MQ below (QG G (oI Q)) args s 0 0 (frA G)) 113 (eOf [(0, vR a0), (1, vR a1), (2, vR a2), (3, vR a3), (4, vR a4), (5, vR a5), (6, vI x6_6), (7, vI x7_6), (9, vI r67), (11, vI x11_78)]) [vI t0_113] h_113 := by
                  intro t0_113 h_113 hw
                  rw [hk_113] at hw
                  refine aw_istore (pc := 113) C dL_move_113 (by rw [hml]; decide) ?_
                  obtain ⟨hp9, hw⟩ := hw
                  refine aw_iincN (pc := 115) C dL_move_115 (k := 1) (by decide) rfl (by rw [hml]; decide) hp9 (fun x11_115 e9 => ?_)
                  have hw := hw x11_115 e9
                  refine aw_goto (pc := 118) (tgt := 78) C dL_move_118 (by decide) ?_
                  obtain ⟨m9, hm9, hw⟩ := hw
                  refine aw_sub [(0, vR a0), (1, vR a1), (2, vR a2), (3, vR a3), (4, vR a4), (5, vR a5), (6, vI x6_6), (7, vI x7_6), (9, vI r67), (10, vI t0_113), (11, vI x11_115)] ⟨rfl, rfl, rfl, rfl, rfl, rfl, rfl, rfl, rfl, rfl, rfl, trivial⟩ ?_
                  exact ih_78 m9 hm9 _ _ _ hw
                obtain ⟨k_108, hk_108, hw⟩ := jn_out hw
                have J_108 : ∀  (h_108 : AH), k_108  h_108 → AW G p l e ({ frames := 2, cells := 0, slots := 0, locals := 45 } : Room) s m args below meth c 0 0 (MQ below (QG G (oI Q)) args s 0 0 (frA G)) 108 (eOf [(0, vR a0), (1, vR a1), (2, vR a2), (3, vR a3), (4, vR a4), (5, vR a5), (6, vI x6_6), (7, vI x7_6), (9, vI r67), (11, vI x11_78)]) [] h_108 := by
                  intro  h_108 hw
                  rw [hk_108] at hw
                  refine aw_iconst (pc := 108) C dL_move_108 (i := (1 : Int)) (by decide) ?_
                  refine aw_goto (pc := 109) (tgt := 113) C dL_move_109 (by decide) ?_
                  refine aw_sub [(0, vR a0), (1, vR a1), (2, vR a2), (3, vR a3), (4, vR a4), (5, vR a5), (6, vI x6_6), (7, vI x7_6), (9, vI r67), (11, vI x11_78)] ⟨rfl, rfl, rfl, rfl, rfl, rfl, rfl, rfl, rfl, rfl, trivial⟩ ?_
                  exact J_113 _ _ hw
                refine aw_if_ne (pc := 88) (tgt := 108) C dL_move_88 (by decide) (fun hc9 => ?_) (fun hc9 => ?_)
                · have hw := hw.1 hc9
                  refine aw_sub [(0, vR a0), (1, vR a1), (2, vR a2), (3, vR a3), (4, vR a4), (5, vR a5), (6, vI x6_6), (7, vI x7_6), (9, vI r67), (11, vI x11_78)] ⟨rfl, rfl, rfl, rfl, rfl, rfl, rfl, rfl, rfl, rfl, trivial⟩ ?_
                  exact J_108  _ hw
                · have hw := hw.2 hc9
                  refine aw_iload (pc := 91) C dL_move_91 rfl ?_
                  refine aw_iload (pc := 93) C dL_move_93 rfl ?_
                  obtain ⟨k_112, hk_112, hw⟩ := jn_out hw
                  have J_112 : ∀  (h_112 : AH), k_112  h_112 → AW G p l e ({ frames := 2, cells := 0, slots := 0, locals := 45 } : Room) s m args below meth c 0 0 (MQ below (QG G (oI Q)) args s 0 0 (frA G)) 112 (eOf [(0, vR a0), (1, vR a1), (2, vR a2), (3, vR a3), (4, vR a4), (5, vR a5), (6, vI x6_6), (7, vI x7_6), (9, vI r67), (11, vI x11_78)]) [] h_112 := by
                    intro  h_112 hw
                    rw [hk_112] at hw
                    refine aw_iconst (pc := 112) C dL_move_112 (i := (0 : Int)) (by decide) ?_
                    refine aw_sub [(0, vR a0), (1, vR a1), (2, vR a2), (3, vR a3), (4, vR a4), (5, vR a5), (6, vI x6_6), (7, vI x7_6), (9, vI r67), (11, vI x11_78)] ⟨rfl, rfl, rfl, rfl, rfl, rfl, rfl, rfl, rfl, rfl, trivial⟩ ?_
                    exact J_113 _ _ hw
                  refine aw_icmp_eq (pc := 95) (tgt := 112) C dL_move_95 (by decide) (fun hc9 => ?_) (fun hc9 => ?_)
                  · have hw := hw.1 hc9
                    refine aw_sub [(0, vR a0), (1, vR a1), (2, vR a2), (3, vR a3), (4, vR a4), (5, vR a5), (6, vI x6_6), (7, vI x7_6), (9, vI r67), (11, vI x11_78)] ⟨rfl, rfl, rfl, rfl, rfl, rfl, rfl, rfl, rfl, rfl, trivial⟩ ?_
                    exact J_112  _ hw
                  · have hw := hw.2 hc9
                    refine aw_aload (pc := 98) C dL_move_98 rfl ?_
                    refine aw_iload (pc := 100) C dL_move_100 rfl ?_
                    obtain ⟨⟨k9, hp9⟩, hw⟩ := hw
                    refine aw_iald (pc := 102) C dL_move_102 hp9 ?_
                    refine aw_iload (pc := 103) C dL_move_103 rfl ?_
                    refine aw_icmp_ne (pc := 105) (tgt := 112) C dL_move_105 (by decide) (fun hc9 => ?_) (fun hc9 => ?_)
                    · have hw := hw.1 hc9
                      refine aw_sub [(0, vR a0), (1, vR a1), (2, vR a2), (3, vR a3), (4, vR a4), (5, vR a5), (6, vI x6_6), (7, vI x7_6), (9, vI r67), (11, vI x11_78)] ⟨rfl, rfl, rfl, rfl, rfl, rfl, rfl, rfl, rfl, rfl, trivial⟩ ?_
                      exact J_112  _ hw
                    · have hw := hw.2 hc9
                      refine aw_sub [(0, vR a0), (1, vR a1), (2, vR a2), (3, vR a3), (4, vR a4), (5, vR a5), (6, vI x6_6), (7, vI x7_6), (9, vI r67), (11, vI x11_78)] ⟨rfl, rfl, rfl, rfl, rfl, rfl, rfl, rfl, rfl, rfl, trivial⟩ ?_
                      exact J_108  _ hw
            refine aw_sub [(0, vR a0), (1, vR a1), (2, vR a2), (3, vR a3), (4, vR a4), (5, vR a5), (6, vI x6_6), (7, vI x7_6), (9, vI r67), (10, vI (0 : Int)), (11, vI (0 : Int))] ⟨rfl, rfl, rfl, rfl, rfl, rfl, rfl, rfl, rfl, rfl, rfl, trivial⟩ ?_
            exact L_78 n9 _ _ _ hi9
          · have hw := hw.2 hc9
            refine aw_goto (pc := 54) (tgt := 184) C dL_move_54 (by decide) ?_
            refine aw_sub [(0, vR a0), (1, vR a1), (2, vR a2), (3, vR a3), (4, vR a4), (5, vR a5), (6, vI x6_6), (7, vI x7_6)] ⟨rfl, rfl, rfl, rfl, rfl, rfl, rfl, rfl, trivial⟩ ?_
            exact J_184 _ _ hw
      refine aw_if_ge (pc := 20) (tgt := 27) C dL_move_20 (by decide) (fun hc9 => ?_) (fun hc9 => ?_)
      · have hw := hw.1 hc9
        refine aw_aload_n (pc := 27) C dL_move_27 rfl rfl ?_
        refine aw_iconst (pc := 28) C dL_move_28 (i := (2 : Int)) (by decide) ?_
        refine aw_aload_n (pc := 29) C dL_move_29 rfl rfl ?_
        refine aw_iconst (pc := 30) C dL_move_30 (i := (2 : Int)) (by decide) ?_
        refine aw_iload (pc := 31) C dL_move_31 rfl ?_
        obtain ⟨hp9, hw⟩ := hw
        refine aw_imul (pc := 33) C dL_move_33 hp9 ?_
        obtain ⟨⟨k9, hp9⟩, hw⟩ := hw
        refine aw_iald (pc := 34) C dL_move_34 hp9 ?_
        obtain ⟨hp9, hw⟩ := hw
        refine aw_imul (pc := 35) C dL_move_35 hp9 ?_
        obtain ⟨⟨k9, hp9⟩, hw⟩ := hw
        refine aw_iald (pc := 36) C dL_move_36 hp9 ?_
        refine aw_sub [(0, vR a0), (1, vR a1), (2, vR a2), (3, vR a3), (4, vR a4), (5, vR a5), (6, vI x6_6), (7, vI x7_6)] ⟨rfl, rfl, rfl, rfl, rfl, rfl, rfl, rfl, trivial⟩ ?_
        exact J_37 _ _ hw
      · have hw := hw.2 hc9
        refine aw_iconst (pc := 23) C dL_move_23 (i := (-1 : Int)) (by decide) ?_
        refine aw_goto (pc := 24) (tgt := 37) C dL_move_24 (by decide) ?_
        refine aw_sub [(0, vR a0), (1, vR a1), (2, vR a2), (3, vR a3), (4, vR a4), (5, vR a5), (6, vI x6_6), (7, vI x7_6)] ⟨rfl, rfl, rfl, rfl, rfl, rfl, rfl, rfl, trivial⟩ ?_
        exact J_37 _ _ hw
  refine aw_sub [(0, vR a0), (1, vR a1), (2, vR a2), (3, vR a3), (4, vR a4), (5, vR a5), (6, vI (0 : Int)), (7, vI (0 : Int))] ⟨rfl, rfl, rfl, rfl, rfl, rfl, rfl, rfl, trivial⟩ ?_
  exact L_6 n9 _ _ _ hi9
theorem dL_shown_0 : decode cL_shown 0 = .ok (.iconst 0, 1) := by decide +kernel
theorem dL_shown_1 : decode cL_shown 1 = .ok (.istore 8, 2) := by decide +kernel
theorem dL_shown_3 : decode cL_shown 3 = .ok (.iload 8, 2) := by decide +kernel
theorem dL_shown_5 : decode cL_shown 5 = .ok (.aload 5, 2) := by decide +kernel
theorem dL_shown_7 : decode cL_shown 7 = .ok (.iconst 0, 1) := by decide +kernel
theorem dL_shown_8 : decode cL_shown 8 = .ok (.iaload, 1) := by decide +kernel
theorem dL_shown_9 : decode cL_shown 9 = .ok (.if_icmp .ge 77, 3) := by decide +kernel
theorem dL_shown_12 : decode cL_shown 12 = .ok (.aload 7, 2) := by decide +kernel
theorem dL_shown_14 : decode cL_shown 14 = .ok (.iload 8, 2) := by decide +kernel
theorem dL_shown_16 : decode cL_shown 16 = .ok (.iaload, 1) := by decide +kernel
theorem dL_shown_17 : decode cL_shown 17 = .ok (.iload_n 0, 1) := by decide +kernel
theorem dL_shown_18 : decode cL_shown 18 = .ok (.if_icmp .ne 62, 3) := by decide +kernel
theorem dL_shown_21 : decode cL_shown 21 = .ok (.aload 6, 2) := by decide +kernel
theorem dL_shown_23 : decode cL_shown 23 = .ok (.iconst 2, 1) := by decide +kernel
theorem dL_shown_24 : decode cL_shown 24 = .ok (.iload 8, 2) := by decide +kernel
theorem dL_shown_26 : decode cL_shown 26 = .ok (.imul, 1) := by decide +kernel
theorem dL_shown_27 : decode cL_shown 27 = .ok (.iconst 1, 1) := by decide +kernel
theorem dL_shown_28 : decode cL_shown 28 = .ok (.iadd, 1) := by decide +kernel
theorem dL_shown_29 : decode cL_shown 29 = .ok (.iaload, 1) := by decide +kernel
theorem dL_shown_30 : decode cL_shown 30 = .ok (.iconst 3, 1) := by decide +kernel
theorem dL_shown_31 : decode cL_shown 31 = .ok (.if_icmp .ne 40, 3) := by decide +kernel
theorem dL_shown_34 : decode cL_shown 34 = .ok (.iload_n 2, 1) := by decide +kernel
theorem dL_shown_35 : decode cL_shown 35 = .ok (.ifCond .eq 36, 3) := by decide +kernel
theorem dL_shown_38 : decode cL_shown 38 = .ok (.iload_n 0, 1) := by decide +kernel
theorem dL_shown_39 : decode cL_shown 39 = .ok (.aload 4, 2) := by decide +kernel
theorem dL_shown_41 : decode cL_shown 41 = .ok (.iconst 2, 1) := by decide +kernel
theorem dL_shown_42 : decode cL_shown 42 = .ok (.aload 6, 2) := by decide +kernel
theorem dL_shown_44 : decode cL_shown 44 = .ok (.iconst 2, 1) := by decide +kernel
theorem dL_shown_45 : decode cL_shown 45 = .ok (.iload 8, 2) := by decide +kernel
theorem dL_shown_47 : decode cL_shown 47 = .ok (.imul, 1) := by decide +kernel
theorem dL_shown_48 : decode cL_shown 48 = .ok (.iaload, 1) := by decide +kernel
theorem dL_shown_49 : decode cL_shown 49 = .ok (.imul, 1) := by decide +kernel
theorem dL_shown_50 : decode cL_shown 50 = .ok (.iaload, 1) := by decide +kernel
theorem dL_shown_51 : decode cL_shown 51 = .ok (.if_icmp .ne 20, 3) := by decide +kernel
theorem dL_shown_54 : decode cL_shown 54 = .ok (.aload 4, 2) := by decide +kernel
theorem dL_shown_56 : decode cL_shown 56 = .ok (.iconst 2, 1) := by decide +kernel
theorem dL_shown_57 : decode cL_shown 57 = .ok (.aload 6, 2) := by decide +kernel
theorem dL_shown_59 : decode cL_shown 59 = .ok (.iconst 2, 1) := by decide +kernel
theorem dL_shown_60 : decode cL_shown 60 = .ok (.iload 8, 2) := by decide +kernel
theorem dL_shown_62 : decode cL_shown 62 = .ok (.imul, 1) := by decide +kernel
theorem dL_shown_63 : decode cL_shown 63 = .ok (.iaload, 1) := by decide +kernel
theorem dL_shown_64 : decode cL_shown 64 = .ok (.imul, 1) := by decide +kernel
theorem dL_shown_65 : decode cL_shown 65 = .ok (.iconst 1, 1) := by decide +kernel
theorem dL_shown_66 : decode cL_shown 66 = .ok (.iadd, 1) := by decide +kernel
theorem dL_shown_67 : decode cL_shown 67 = .ok (.iaload, 1) := by decide +kernel
theorem dL_shown_68 : decode cL_shown 68 = .ok (.goto 11, 3) := by decide +kernel
theorem dL_shown_71 : decode cL_shown 71 = .ok (.aload_n 3, 1) := by decide +kernel
theorem dL_shown_72 : decode cL_shown 72 = .ok (.iconst 2, 1) := by decide +kernel
theorem dL_shown_73 : decode cL_shown 73 = .ok (.iload 8, 2) := by decide +kernel
theorem dL_shown_75 : decode cL_shown 75 = .ok (.imul, 1) := by decide +kernel
theorem dL_shown_76 : decode cL_shown 76 = .ok (.iconst 1, 1) := by decide +kernel
theorem dL_shown_77 : decode cL_shown 77 = .ok (.iadd, 1) := by decide +kernel
theorem dL_shown_78 : decode cL_shown 78 = .ok (.iaload, 1) := by decide +kernel
theorem dL_shown_79 : decode cL_shown 79 = .ok (.ireturn, 1) := by decide +kernel
theorem dL_shown_80 : decode cL_shown 80 = .ok (.iinc 8 1, 3) := by decide +kernel
theorem dL_shown_83 : decode cL_shown 83 = .ok (.goto (-80), 3) := by decide +kernel
theorem dL_shown_86 : decode cL_shown 86 = .ok (.iconst 0, 1) := by decide +kernel
theorem dL_shown_87 : decode cL_shown 87 = .ok (.istore 8, 2) := by decide +kernel
theorem dL_shown_89 : decode cL_shown 89 = .ok (.iconst 0, 1) := by decide +kernel
theorem dL_shown_90 : decode cL_shown 90 = .ok (.istore 9, 2) := by decide +kernel
theorem dL_shown_92 : decode cL_shown 92 = .ok (.iload 9, 2) := by decide +kernel
theorem dL_shown_94 : decode cL_shown 94 = .ok (.aload 5, 2) := by decide +kernel
theorem dL_shown_96 : decode cL_shown 96 = .ok (.iconst 1, 1) := by decide +kernel
theorem dL_shown_97 : decode cL_shown 97 = .ok (.iaload, 1) := by decide +kernel
theorem dL_shown_98 : decode cL_shown 98 = .ok (.if_icmp .ge 54, 3) := by decide +kernel
theorem dL_shown_101 : decode cL_shown 101 = .ok (.iload 9, 2) := by decide +kernel
theorem dL_shown_103 : decode cL_shown 103 = .ok (.aload 5, 2) := by decide +kernel
theorem dL_shown_105 : decode cL_shown 105 = .ok (.aload 6, 2) := by decide +kernel
theorem dL_shown_107 : decode cL_shown 107 = .ok (.invokestatic 18, 3) := by decide +kernel
theorem dL_shown_110 : decode cL_shown 110 = .ok (.ifCond .eq 6, 3) := by decide +kernel
theorem dL_shown_113 : decode cL_shown 113 = .ok (.goto 33, 3) := by decide +kernel
theorem dL_shown_116 : decode cL_shown 116 = .ok (.iload 8, 2) := by decide +kernel
theorem dL_shown_118 : decode cL_shown 118 = .ok (.iload_n 1, 1) := by decide +kernel
theorem dL_shown_119 : decode cL_shown 119 = .ok (.if_icmp .ge 24, 3) := by decide +kernel
theorem dL_shown_122 : decode cL_shown 122 = .ok (.aload 4, 2) := by decide +kernel
theorem dL_shown_124 : decode cL_shown 124 = .ok (.iconst 2, 1) := by decide +kernel
theorem dL_shown_125 : decode cL_shown 125 = .ok (.iload 9, 2) := by decide +kernel
theorem dL_shown_127 : decode cL_shown 127 = .ok (.imul, 1) := by decide +kernel
theorem dL_shown_128 : decode cL_shown 128 = .ok (.iaload, 1) := by decide +kernel
theorem dL_shown_129 : decode cL_shown 129 = .ok (.iload_n 0, 1) := by decide +kernel
theorem dL_shown_130 : decode cL_shown 130 = .ok (.if_icmp .ne 13, 3) := by decide +kernel
theorem dL_shown_133 : decode cL_shown 133 = .ok (.aload 4, 2) := by decide +kernel
theorem dL_shown_135 : decode cL_shown 135 = .ok (.iconst 2, 1) := by decide +kernel
theorem dL_shown_136 : decode cL_shown 136 = .ok (.iload 9, 2) := by decide +kernel
theorem dL_shown_138 : decode cL_shown 138 = .ok (.imul, 1) := by decide +kernel
theorem dL_shown_139 : decode cL_shown 139 = .ok (.iconst 1, 1) := by decide +kernel
theorem dL_shown_140 : decode cL_shown 140 = .ok (.iadd, 1) := by decide +kernel
theorem dL_shown_141 : decode cL_shown 141 = .ok (.iaload, 1) := by decide +kernel
theorem dL_shown_142 : decode cL_shown 142 = .ok (.ireturn, 1) := by decide +kernel
theorem dL_shown_143 : decode cL_shown 143 = .ok (.iinc 8 1, 3) := by decide +kernel
theorem dL_shown_146 : decode cL_shown 146 = .ok (.iinc 9 1, 3) := by decide +kernel
theorem dL_shown_149 : decode cL_shown 149 = .ok (.goto (-57), 3) := by decide +kernel
theorem dL_shown_152 : decode cL_shown 152 = .ok (.bipush 32, 2) := by decide +kernel
theorem dL_shown_154 : decode cL_shown 154 = .ok (.ireturn, 1) := by decide +kernel
theorem pd_L_shown : (parseMethodDescriptor yL_shown.desc).map (fun d => d.parameters.length) = some 8 := by decide +kernel
def w_L_shown (zz : Nat → Nat) (a0 : Int) (a1 : Int) (a2 : Int) (a3 : Nat) (a4 : Nat) (a5 : Nat) (a6 : Nat) (a7 : Nat) (h : AH) (Q : Int → AH → Prop) : Prop := ∃ I_3 : Nat → Int → AH → Prop, (∃ n, I_3 n (0 : Int) h) ∧ ∀ (n_3 : Nat) (x8_3 : Int) (h_3 : AH), I_3 n_3 x8_3 h_3 → (okI h_3 a5 (0 : Int) ∧ (((haI h_3 a5 (0 : Int)) ≤ x8_3) → ∃ I_92 : Nat → Int → Int → AH → Prop, (∃ n, I_92 n (0 : Int) (0 : Int) h_3) ∧ ∀ (n_92 : Nat) (x8_92 : Int) (x9_92 : Int) (h_92 : AH), I_92 n_92 x8_92 x9_92 h_92 → (okI h_92 a5 (1 : Int) ∧ (((haI h_92 a5 (1 : Int)) ≤ x9_92) → Q (32 : Int) h_92) ∧ ((¬ ((haI h_92 a5 (1 : Int)) ≤ x9_92)) → w_L_taken zz x9_92 a5 a6 h_92 (fun (r107 : Int) (h107 : AH) => jn (fun (x8_146 : Int) (h_146 : AH) => inR (x9_92 + 1) ∧ ∀ x9_146 : Int, x9_146 = (x9_92 + 1) → ∃ m, m < n_92 ∧ I_92 m x8_146 x9_146 h_146) (fun k_146 : Int → AH → Prop => ((r107 = 0) → jn (fun  (h_143 : AH) => inR (x8_92 + 1) ∧ ∀ x8_143 : Int, x8_143 = (x8_92 + 1) → k_146 x8_143 h_143) (fun k_143 : AH → Prop => ((a1 ≤ x8_92) → k_143  h107) ∧ ((¬ (a1 ≤ x8_92)) → inR ((2 : Int) * x9_92) ∧ okI h107 a4 ((2 : Int) * x9_92) ∧ ((¬ (haI h107 a4 ((2 : Int) * x9_92)) = a0) → k_143  h107) ∧ (((haI h107 a4 ((2 : Int) * x9_92)) = a0) → inR ((2 : Int) * x9_92) ∧ inR (((2 : Int) * x9_92) + (1 : Int)) ∧ okI h107 a4 (((2 : Int) * x9_92) + (1 : Int)) ∧ Q (haI h107 a4 (((2 : Int) * x9_92) + (1 : Int))) h107)))) ∧ ((¬ (r107 = 0)) → k_146 x8_92 h107)))))) ∧ ((¬ ((haI h_3 a5 (0 : Int)) ≤ x8_3)) → okI h_3 a7 x8_3 ∧ ((¬ (haI h_3 a7 x8_3) = a0) → inR (x8_3 + 1) ∧ ∀ x8_80 : Int, x8_80 = (x8_3 + 1) → ∃ m, m < n_3 ∧ I_3 m x8_80 h_3) ∧ (((haI h_3 a7 x8_3) = a0) → inR ((2 : Int) * x8_3) ∧ inR (((2 : Int) * x8_3) + (1 : Int)) ∧ okI h_3 a6 (((2 : Int) * x8_3) + (1 : Int)) ∧ jn (fun (t0_79 : Int) (h_79 : AH) => Q t0_79 h_79) (fun k_79 : Int → AH → Prop => jn (fun  (h_71 : AH) => inR ((2 : Int) * x8_3) ∧ inR (((2 : Int) * x8_3) + (1 : Int)) ∧ okI h_71 a3 (((2 : Int) * x8_3) + (1 : Int)) ∧ k_79 (haI h_71 a3 (((2 : Int) * x8_3) + (1 : Int))) h_71) (fun k_71 : AH → Prop => ((¬ (haI h_3 a6 (((2 : Int) * x8_3) + (1 : Int))) = (3 : Int)) → k_71  h_3) ∧ (((haI h_3 a6 (((2 : Int) * x8_3) + (1 : Int))) = (3 : Int)) → ((a2 = 0) → k_71  h_3) ∧ ((¬ (a2 = 0)) → inR ((2 : Int) * x8_3) ∧ okI h_3 a6 ((2 : Int) * x8_3) ∧ inR ((2 : Int) * (haI h_3 a6 ((2 : Int) * x8_3))) ∧ okI h_3 a4 ((2 : Int) * (haI h_3 a6 ((2 : Int) * x8_3))) ∧ ((¬ a0 = (haI h_3 a4 ((2 : Int) * (haI h_3 a6 ((2 : Int) * x8_3))))) → k_71  h_3) ∧ ((a0 = (haI h_3 a4 ((2 : Int) * (haI h_3 a6 ((2 : Int) * x8_3))))) → inR ((2 : Int) * x8_3) ∧ okI h_3 a6 ((2 : Int) * x8_3) ∧ inR ((2 : Int) * (haI h_3 a6 ((2 : Int) * x8_3))) ∧ inR (((2 : Int) * (haI h_3 a6 ((2 : Int) * x8_3))) + (1 : Int)) ∧ okI h_3 a4 (((2 : Int) * (haI h_3 a6 ((2 : Int) * x8_3))) + (1 : Int)) ∧ k_79 (haI h_3 a4 (((2 : Int) * (haI h_3 a6 ((2 : Int) * x8_3))) + (1 : Int))) h_3))))))))
set_option maxRecDepth 100000 in
set_option maxHeartbeats 4000000 in
theorem met_L_shown (G : GG) (l : Launch) : ∀ (As : List Value) (a0 : Int) (a1 : Int) (a2 : Int) (a3 : Nat) (a4 : Nat) (a5 : Nat) (a6 : Nat) (a7 : Nat) (h : AH) (Q : Int → AH → Prop), As.map ab = List.map some ([vI a0, vI a1, vI a2, vR a3, vR a4, vR a5, vR a6, vR a7] : List AV) → w_L_shown G.2.2 a0 a1 a2 a3 a4 a5 a6 a7 h Q → Met l yL_shown (.code yL_shown cL_shown 10 (some .int) :: xTb) ({ frames := 1, cells := 0, slots := 0, locals := 23 } : Room) (PcA G As h) (QG G (oI Q)) 0 0 (frA G) := by
  intro As a0 a1 a2 a3 a4 a5 a6 a7 h Q hA hw
  refine met_of hA (by decide) (Nat.le_of_ble_eq_true rfl) (fun p e s m args below meth c C hml hr hnm => ?_)
  unfold w_L_shown at hw
  refine aw_iconst (pc := 0) C dL_shown_0 (i := (0 : Int)) (by decide) ?_
  refine aw_istore (pc := 1) C dL_shown_1 (by rw [hml]; decide) ?_
  obtain ⟨I_3, ⟨n9, hi9⟩, hst9⟩ := hw
  have L_3 : ∀ (n_3 : Nat) (x8_3 : Int) (h_3 : AH), I_3 n_3 x8_3 h_3 → AW G p l e ({ frames := 1, cells := 0, slots := 0, locals := 23 } : Room) s m args below meth c 0 0 (MQ below (QG G (oI Q)) args s 0 0 (frA G)) 3 (eOf [(0, vI a0), (1, vI a1), (2, vI a2), (3, vR a3), (4, vR a4), (5, vR a5), (6, vR a6), (7, vR a7), (8, vI x8_3)]) [] h_3 := by
    intro n_3
    induction n_3 using Nat.strongRecOn with
    | _ n_3 ih_3 =>
    intro x8_3 h_3 hi9
    have hw := hst9 n_3 x8_3 h_3 hi9
    refine aw_iload (pc := 3) C dL_shown_3 rfl ?_
    refine aw_aload (pc := 5) C dL_shown_5 rfl ?_
    refine aw_iconst (pc := 7) C dL_shown_7 (i := (0 : Int)) (by decide) ?_
    obtain ⟨⟨k9, hp9⟩, hw⟩ := hw
    refine aw_iald (pc := 8) C dL_shown_8 hp9 ?_
    refine aw_icmp_ge (pc := 9) (tgt := 86) C dL_shown_9 (by decide) (fun hc9 => ?_) (fun hc9 => ?_)
    · have hw := hw.1 hc9
      refine aw_iconst (pc := 86) C dL_shown_86 (i := (0 : Int)) (by decide) ?_
      refine aw_istore (pc := 87) C dL_shown_87 (by rw [hml]; decide) ?_
      refine aw_iconst (pc := 89) C dL_shown_89 (i := (0 : Int)) (by decide) ?_
      refine aw_istore (pc := 90) C dL_shown_90 (by rw [hml]; decide) ?_
      obtain ⟨I_92, ⟨n9, hi9⟩, hst9⟩ := hw
      have L_92 : ∀ (n_92 : Nat) (x8_92 : Int) (x9_92 : Int) (h_92 : AH), I_92 n_92 x8_92 x9_92 h_92 → AW G p l e ({ frames := 1, cells := 0, slots := 0, locals := 23 } : Room) s m args below meth c 0 0 (MQ below (QG G (oI Q)) args s 0 0 (frA G)) 92 (eOf [(0, vI a0), (1, vI a1), (4, vR a4), (5, vR a5), (6, vR a6), (8, vI x8_92), (9, vI x9_92)]) [] h_92 := by
        intro n_92
        induction n_92 using Nat.strongRecOn with
        | _ n_92 ih_92 =>
        intro x8_92 x9_92 h_92 hi9
        have hw := hst9 n_92 x8_92 x9_92 h_92 hi9
        refine aw_iload (pc := 92) C dL_shown_92 rfl ?_
        refine aw_aload (pc := 94) C dL_shown_94 rfl ?_
        refine aw_iconst (pc := 96) C dL_shown_96 (i := (1 : Int)) (by decide) ?_
        obtain ⟨⟨k9, hp9⟩, hw⟩ := hw
        refine aw_iald (pc := 97) C dL_shown_97 hp9 ?_
        refine aw_icmp_ge (pc := 98) (tgt := 152) C dL_shown_98 (by decide) (fun hc9 => ?_) (fun hc9 => ?_)
        · have hw := hw.1 hc9
          refine aw_bipush (pc := 152) C dL_shown_152 (i := (32 : Int)) (by decide) ?_
          exact aw_iret (pc := 154) C hr dL_shown_154 ⟨Nat.le_of_ble_eq_true rfl, Nat.le_of_ble_eq_true rfl⟩ ⟨_, rfl, hw⟩
        · have hw := hw.2 hc9
          refine aw_iload (pc := 101) C dL_shown_101 rfl ?_
          refine aw_aload (pc := 103) C dL_shown_103 rfl ?_
          refine aw_aload (pc := 105) C dL_shown_105 rfl ?_
          refine aw_callS (pc := 107) (as := [vI x9_92, vR a5, vR a6]) C (fun As hA => met_L_taken G l As x9_92 a5 a6 _ _ hA hw) tw468 tw469 tw0 tw470 ⟨rfl, rfl⟩ ⟨by decide, by decide, pd_L_taken⟩ ⟨Nat.le_of_ble_eq_true rfl, Nat.le_of_ble_eq_true rfl⟩ ⟨Nat.zero_le _, Nat.zero_le _⟩ (Nat.le_of_ble_eq_true rfl) dL_shown_107 rfl (fun v9 h107 hq9 => ?_)
          obtain ⟨r107, rfl, hw⟩ := hq9
          obtain ⟨k_146, hk_146, hw⟩ := jn_out hw
          have J_146 : ∀ (x8_146 : Int) (h_146 : AH), k_146 x8_146 h_146 → AW G p l e ({ frames := 1, cells := 0, slots := 0, locals := 23 } : Room) s m args below meth c 0 0 (MQ below (QG G (oI Q)) args s 0 0 (frA G)) 146 (eOf [(0, vI a0), (1, vI a1), (4, vR a4), (5, vR a5), (6, vR a6), (8, vI x8_146), (9, vI x9_92)]) [] h_146 := by
            intro x8_146 h_146 hw
            rw [hk_146] at hw
            obtain ⟨hp9, hw⟩ := hw
            refine aw_iincN (pc := 146) C dL_shown_146 (k := 1) (by decide) rfl (by rw [hml]; decide) hp9 (fun x9_146 e9 => ?_)
            have hw := hw x9_146 e9
            refine aw_goto (pc := 149) (tgt := 92) C dL_shown_149 (by decide) ?_
            obtain ⟨m9, hm9, hw⟩ := hw
            refine aw_sub [(0, vI a0), (1, vI a1), (4, vR a4), (5, vR a5), (6, vR a6), (8, vI x8_146), (9, vI x9_146)] ⟨rfl, rfl, rfl, rfl, rfl, rfl, rfl, trivial⟩ ?_
            exact ih_92 m9 hm9 _ _ _ hw
          refine aw_if_eq (pc := 110) (tgt := 116) C dL_shown_110 (by decide) (fun hc9 => ?_) (fun hc9 => ?_)
          · have hw := hw.1 hc9
            refine aw_iload (pc := 116) C dL_shown_116 rfl ?_
            refine aw_iload_n (pc := 118) C dL_shown_118 rfl rfl ?_
            obtain ⟨k_143, hk_143, hw⟩ := jn_out hw
            have J_143 : ∀  (h_143 : AH), k_143  h_143 → AW G p l e ({ frames := 1, cells := 0, slots := 0, locals := 23 } : Room) s m args below meth c 0 0 (MQ below (QG G (oI Q)) args s 0 0 (frA G)) 143 (eOf [(0, vI a0), (1, vI a1), (4, vR a4), (5, vR a5), (6, vR a6), (8, vI x8_92), (9, vI x9_92)]) [] h_143 := by
              intro  h_143 hw
              rw [hk_143] at hw
              obtain ⟨hp9, hw⟩ := hw
              refine aw_iincN (pc := 143) C dL_shown_143 (k := 1) (by decide) rfl (by rw [hml]; decide) hp9 (fun x8_143 e9 => ?_)
              have hw := hw x8_143 e9
              refine aw_sub [(0, vI a0), (1, vI a1), (4, vR a4), (5, vR a5), (6, vR a6), (8, vI x8_143), (9, vI x9_92)] ⟨rfl, rfl, rfl, rfl, rfl, rfl, rfl, trivial⟩ ?_
              exact J_146 _ _ hw
            refine aw_icmp_ge (pc := 119) (tgt := 143) C dL_shown_119 (by decide) (fun hc9 => ?_) (fun hc9 => ?_)
            · have hw := hw.1 hc9
              refine aw_sub [(0, vI a0), (1, vI a1), (4, vR a4), (5, vR a5), (6, vR a6), (8, vI x8_92), (9, vI x9_92)] ⟨rfl, rfl, rfl, rfl, rfl, rfl, rfl, trivial⟩ ?_
              exact J_143  _ hw
            · have hw := hw.2 hc9
              refine aw_aload (pc := 122) C dL_shown_122 rfl ?_
              refine aw_iconst (pc := 124) C dL_shown_124 (i := (2 : Int)) (by decide) ?_
              refine aw_iload (pc := 125) C dL_shown_125 rfl ?_
              obtain ⟨hp9, hw⟩ := hw
              refine aw_imul (pc := 127) C dL_shown_127 hp9 ?_
              obtain ⟨⟨k9, hp9⟩, hw⟩ := hw
              refine aw_iald (pc := 128) C dL_shown_128 hp9 ?_
              refine aw_iload_n (pc := 129) C dL_shown_129 rfl rfl ?_
              refine aw_icmp_ne (pc := 130) (tgt := 143) C dL_shown_130 (by decide) (fun hc9 => ?_) (fun hc9 => ?_)
              · have hw := hw.1 hc9
                refine aw_sub [(0, vI a0), (1, vI a1), (4, vR a4), (5, vR a5), (6, vR a6), (8, vI x8_92), (9, vI x9_92)] ⟨rfl, rfl, rfl, rfl, rfl, rfl, rfl, trivial⟩ ?_
                exact J_143  _ hw
              · have hw := hw.2 hc9
                refine aw_aload (pc := 133) C dL_shown_133 rfl ?_
                refine aw_iconst (pc := 135) C dL_shown_135 (i := (2 : Int)) (by decide) ?_
                refine aw_iload (pc := 136) C dL_shown_136 rfl ?_
                obtain ⟨hp9, hw⟩ := hw
                refine aw_imul (pc := 138) C dL_shown_138 hp9 ?_
                refine aw_iconst (pc := 139) C dL_shown_139 (i := (1 : Int)) (by decide) ?_
                obtain ⟨hp9, hw⟩ := hw
                refine aw_iadd (pc := 140) C dL_shown_140 hp9 ?_
                obtain ⟨⟨k9, hp9⟩, hw⟩ := hw
                refine aw_iald (pc := 141) C dL_shown_141 hp9 ?_
                exact aw_iret (pc := 142) C hr dL_shown_142 ⟨Nat.le_of_ble_eq_true rfl, Nat.le_of_ble_eq_true rfl⟩ ⟨_, rfl, hw⟩
          · have hw := hw.2 hc9
            refine aw_goto (pc := 113) (tgt := 146) C dL_shown_113 (by decide) ?_
            refine aw_sub [(0, vI a0), (1, vI a1), (4, vR a4), (5, vR a5), (6, vR a6), (8, vI x8_92), (9, vI x9_92)] ⟨rfl, rfl, rfl, rfl, rfl, rfl, rfl, trivial⟩ ?_
            exact J_146 _ _ hw
      refine aw_sub [(0, vI a0), (1, vI a1), (4, vR a4), (5, vR a5), (6, vR a6), (8, vI (0 : Int)), (9, vI (0 : Int))] ⟨rfl, rfl, rfl, rfl, rfl, rfl, rfl, trivial⟩ ?_
      exact L_92 n9 _ _ _ hi9
    · have hw := hw.2 hc9
      refine aw_aload (pc := 12) C dL_shown_12 rfl ?_
      refine aw_iload (pc := 14) C dL_shown_14 rfl ?_
      obtain ⟨⟨k9, hp9⟩, hw⟩ := hw
      refine aw_iald (pc := 16) C dL_shown_16 hp9 ?_
      refine aw_iload_n (pc := 17) C dL_shown_17 rfl rfl ?_
      refine aw_icmp_ne (pc := 18) (tgt := 80) C dL_shown_18 (by decide) (fun hc9 => ?_) (fun hc9 => ?_)
      · have hw := hw.1 hc9
        obtain ⟨hp9, hw⟩ := hw
        refine aw_iincN (pc := 80) C dL_shown_80 (k := 1) (by decide) rfl (by rw [hml]; decide) hp9 (fun x8_80 e9 => ?_)
        have hw := hw x8_80 e9
        refine aw_goto (pc := 83) (tgt := 3) C dL_shown_83 (by decide) ?_
        obtain ⟨m9, hm9, hw⟩ := hw
        refine aw_sub [(0, vI a0), (1, vI a1), (2, vI a2), (3, vR a3), (4, vR a4), (5, vR a5), (6, vR a6), (7, vR a7), (8, vI x8_80)] ⟨rfl, rfl, rfl, rfl, rfl, rfl, rfl, rfl, rfl, trivial⟩ ?_
        exact ih_3 m9 hm9 _ _ hw
      · have hw := hw.2 hc9
        refine aw_aload (pc := 21) C dL_shown_21 rfl ?_
        refine aw_iconst (pc := 23) C dL_shown_23 (i := (2 : Int)) (by decide) ?_
        refine aw_iload (pc := 24) C dL_shown_24 rfl ?_
        obtain ⟨hp9, hw⟩ := hw
        refine aw_imul (pc := 26) C dL_shown_26 hp9 ?_
        refine aw_iconst (pc := 27) C dL_shown_27 (i := (1 : Int)) (by decide) ?_
        obtain ⟨hp9, hw⟩ := hw
        refine aw_iadd (pc := 28) C dL_shown_28 hp9 ?_
        obtain ⟨⟨k9, hp9⟩, hw⟩ := hw
        refine aw_iald (pc := 29) C dL_shown_29 hp9 ?_
        refine aw_iconst (pc := 30) C dL_shown_30 (i := (3 : Int)) (by decide) ?_
        obtain ⟨k_79, hk_79, hw⟩ := jn_out hw
        have J_79 : ∀ (t0_79 : Int) (h_79 : AH), k_79 t0_79 h_79 → AW G p l e ({ frames := 1, cells := 0, slots := 0, locals := 23 } : Room) s m args below meth c 0 0 (MQ below (QG G (oI Q)) args s 0 0 (frA G)) 79 (eOf []) [vI t0_79] h_79 := by
          intro t0_79 h_79 hw
          rw [hk_79] at hw
          exact aw_iret (pc := 79) C hr dL_shown_79 ⟨Nat.le_of_ble_eq_true rfl, Nat.le_of_ble_eq_true rfl⟩ ⟨_, rfl, hw⟩
        obtain ⟨k_71, hk_71, hw⟩ := jn_out hw
        have J_71 : ∀  (h_71 : AH), k_71  h_71 → AW G p l e ({ frames := 1, cells := 0, slots := 0, locals := 23 } : Room) s m args below meth c 0 0 (MQ below (QG G (oI Q)) args s 0 0 (frA G)) 71 (eOf [(3, vR a3), (8, vI x8_3)]) [] h_71 := by
          intro  h_71 hw
          rw [hk_71] at hw
          refine aw_aload_n (pc := 71) C dL_shown_71 rfl rfl ?_
          refine aw_iconst (pc := 72) C dL_shown_72 (i := (2 : Int)) (by decide) ?_
          refine aw_iload (pc := 73) C dL_shown_73 rfl ?_
          obtain ⟨hp9, hw⟩ := hw
          refine aw_imul (pc := 75) C dL_shown_75 hp9 ?_
          refine aw_iconst (pc := 76) C dL_shown_76 (i := (1 : Int)) (by decide) ?_
          obtain ⟨hp9, hw⟩ := hw
          refine aw_iadd (pc := 77) C dL_shown_77 hp9 ?_
          obtain ⟨⟨k9, hp9⟩, hw⟩ := hw
          refine aw_iald (pc := 78) C dL_shown_78 hp9 ?_
          refine aw_sub [] trivial ?_
          exact J_79 _ _ hw
        refine aw_icmp_ne (pc := 31) (tgt := 71) C dL_shown_31 (by decide) (fun hc9 => ?_) (fun hc9 => ?_)
        · have hw := hw.1 hc9
          refine aw_sub [(3, vR a3), (8, vI x8_3)] ⟨rfl, rfl, trivial⟩ ?_
          exact J_71  _ hw
        · have hw := hw.2 hc9
          refine aw_iload_n (pc := 34) C dL_shown_34 rfl rfl ?_
          refine aw_if_eq (pc := 35) (tgt := 71) C dL_shown_35 (by decide) (fun hc9 => ?_) (fun hc9 => ?_)
          · have hw := hw.1 hc9
            refine aw_sub [(3, vR a3), (8, vI x8_3)] ⟨rfl, rfl, trivial⟩ ?_
            exact J_71  _ hw
          · have hw := hw.2 hc9
            refine aw_iload_n (pc := 38) C dL_shown_38 rfl rfl ?_
            refine aw_aload (pc := 39) C dL_shown_39 rfl ?_
            refine aw_iconst (pc := 41) C dL_shown_41 (i := (2 : Int)) (by decide) ?_
            refine aw_aload (pc := 42) C dL_shown_42 rfl ?_
            refine aw_iconst (pc := 44) C dL_shown_44 (i := (2 : Int)) (by decide) ?_
            refine aw_iload (pc := 45) C dL_shown_45 rfl ?_
            obtain ⟨hp9, hw⟩ := hw
            refine aw_imul (pc := 47) C dL_shown_47 hp9 ?_
            obtain ⟨⟨k9, hp9⟩, hw⟩ := hw
            refine aw_iald (pc := 48) C dL_shown_48 hp9 ?_
            obtain ⟨hp9, hw⟩ := hw
            refine aw_imul (pc := 49) C dL_shown_49 hp9 ?_
            obtain ⟨⟨k9, hp9⟩, hw⟩ := hw
            refine aw_iald (pc := 50) C dL_shown_50 hp9 ?_
            refine aw_icmp_ne (pc := 51) (tgt := 71) C dL_shown_51 (by decide) (fun hc9 => ?_) (fun hc9 => ?_)
            · have hw := hw.1 hc9
              refine aw_sub [(3, vR a3), (8, vI x8_3)] ⟨rfl, rfl, trivial⟩ ?_
              exact J_71  _ hw
            · have hw := hw.2 hc9
              refine aw_aload (pc := 54) C dL_shown_54 rfl ?_
              refine aw_iconst (pc := 56) C dL_shown_56 (i := (2 : Int)) (by decide) ?_
              refine aw_aload (pc := 57) C dL_shown_57 rfl ?_
              refine aw_iconst (pc := 59) C dL_shown_59 (i := (2 : Int)) (by decide) ?_
              refine aw_iload (pc := 60) C dL_shown_60 rfl ?_
              obtain ⟨hp9, hw⟩ := hw
              refine aw_imul (pc := 62) C dL_shown_62 hp9 ?_
              obtain ⟨⟨k9, hp9⟩, hw⟩ := hw
              refine aw_iald (pc := 63) C dL_shown_63 hp9 ?_
              obtain ⟨hp9, hw⟩ := hw
              refine aw_imul (pc := 64) C dL_shown_64 hp9 ?_
              refine aw_iconst (pc := 65) C dL_shown_65 (i := (1 : Int)) (by decide) ?_
              obtain ⟨hp9, hw⟩ := hw
              refine aw_iadd (pc := 66) C dL_shown_66 hp9 ?_
              obtain ⟨⟨k9, hp9⟩, hw⟩ := hw
              refine aw_iald (pc := 67) C dL_shown_67 hp9 ?_
              refine aw_goto (pc := 68) (tgt := 79) C dL_shown_68 (by decide) ?_
              refine aw_sub [] trivial ?_
              exact J_79 _ _ hw
  refine aw_sub [(0, vI a0), (1, vI a1), (2, vI a2), (3, vR a3), (4, vR a4), (5, vR a5), (6, vR a6), (7, vR a7), (8, vI (0 : Int))] ⟨rfl, rfl, rfl, rfl, rfl, rfl, rfl, rfl, rfl, trivial⟩ ?_
  exact L_3 n9 _ _ hi9
