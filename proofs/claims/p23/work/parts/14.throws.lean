/-! THE METHODS, BY PROGRAM (wip/whole/gen.py): what each means (w_..), and its contract (met_..) -/
theorem dX6_set_0 : decode cX6_set 0 = .ok (.iload_n 1, 1) := by decide +kernel
theorem dX6_set_1 : decode cX6_set 1 = .ok (.invokestatic 65, 3) := by decide +kernel
theorem dX6_set_4 : decode cX6_set 4 = .ok (.ifCond .ne 13, 3) := by decide +kernel
theorem dX6_set_7 : decode cX6_set 7 = .ok (.new 69, 3) := by decide +kernel
theorem dX6_set_10 : decode cX6_set 10 = .ok (.dup, 1) := by decide +kernel
theorem dX6_set_11 : decode cX6_set 11 = .ok (.ldc 71, 2) := by decide +kernel
theorem dX6_set_13 : decode cX6_set 13 = .ok (.invokespecial 73, 3) := by decide +kernel
theorem dX6_set_16 : decode cX6_set 16 = .ok (.athrow, 1) := by decide +kernel
theorem dX6_set_17 : decode cX6_set 17 = .ok (.iload_n 1, 1) := by decide +kernel
theorem dX6_set_18 : decode cX6_set 18 = .ok (.iload_n 2, 1) := by decide +kernel
theorem dX6_set_19 : decode cX6_set 19 = .ok (.invokestatic 76, 3) := by decide +kernel
theorem dX6_set_22 : decode cX6_set 22 = .ok (.ifCond .ne 13, 3) := by decide +kernel
theorem dX6_set_25 : decode cX6_set 25 = .ok (.new 80, 3) := by decide +kernel
theorem dX6_set_28 : decode cX6_set 28 = .ok (.dup, 1) := by decide +kernel
theorem dX6_set_29 : decode cX6_set 29 = .ok (.ldc 82, 2) := by decide +kernel
theorem dX6_set_31 : decode cX6_set 31 = .ok (.invokespecial 84, 3) := by decide +kernel
theorem dX6_set_34 : decode cX6_set 34 = .ok (.athrow, 1) := by decide +kernel
theorem dX6_set_35 : decode cX6_set 35 = .ok (.aload_n 0, 1) := by decide +kernel
theorem dX6_set_36 : decode cX6_set 36 = .ok (.invokevirtual 50, 3) := by decide +kernel
theorem dX6_set_39 : decode cX6_set 39 = .ok (.aload_n 0, 1) := by decide +kernel
theorem dX6_set_40 : decode cX6_set 40 = .ok (.getfield 12, 3) := by decide +kernel
theorem dX6_set_43 : decode cX6_set 43 = .ok (.getfield 85, 3) := by decide +kernel
theorem dX6_set_46 : decode cX6_set 46 = .ok (.iload_n 1, 1) := by decide +kernel
theorem dX6_set_47 : decode cX6_set 47 = .ok (.iaload, 1) := by decide +kernel
theorem dX6_set_48 : decode cX6_set 48 = .ok (.istore_n 3, 1) := by decide +kernel
theorem dX6_set_49 : decode cX6_set 49 = .ok (.aload_n 0, 1) := by decide +kernel
theorem dX6_set_50 : decode cX6_set 50 = .ok (.getfield 12, 3) := by decide +kernel
theorem dX6_set_53 : decode cX6_set 53 = .ok (.getfield 85, 3) := by decide +kernel
theorem dX6_set_56 : decode cX6_set 56 = .ok (.iload_n 1, 1) := by decide +kernel
theorem dX6_set_57 : decode cX6_set 57 = .ok (.iload_n 2, 1) := by decide +kernel
theorem dX6_set_58 : decode cX6_set 58 = .ok (.iastore, 1) := by decide +kernel
theorem dX6_set_59 : decode cX6_set 59 = .ok (.iload_n 3, 1) := by decide +kernel
theorem dX6_set_60 : decode cX6_set 60 = .ok (.ireturn, 1) := by decide +kernel
theorem pd_X6_set : (parseMethodDescriptor yX6_set.desc).map (fun d => d.parameters.length) = some 2 := by decide +kernel
def w_X6_set (zz : Nat → Nat) (a0 : Nat) (a1 : Int) (a2 : Int) (h : AH) (Q : Int → AH → Prop) (X : String → AH → Prop) : Prop := w_X6_isSetting zz a1 h (fun (r1 : Int) (h1 : AH) => ((¬ r1 = 0) → w_X6_isValue zz a1 a2 h1 (fun (r19 : Int) (h19 : AH) => ((¬ r19 = 0) → okA h19 a0 6 ∧ w_X6_save zz a0 h19 (fun  (h36 : AH) => okA h36 a0 6 ∧ ∃ b40 : Nat, hfR h36 a0 0 = some b40 ∧ okA h36 b40 4 ∧ ∃ b43 : Nat, hfR h36 b40 0 = some b43 ∧ okI h36 b43 a1 ∧ ∀ x3_48 : Int, x3_48 = (haI h36 b43 a1) → okA h36 a0 6 ∧ ∃ b50 : Nat, hfR h36 a0 0 = some b50 ∧ okA h36 b50 4 ∧ ∃ b53 : Nat, hfR h36 b50 0 = some b53 ∧ okW h36 b53 a1 ∧ ∀ h58 : AH, h58 = saI h36 b53 (u1 (haI h36 b53) a1 a2) → Q x3_48 h58)) ∧ ((r19 = 0) → hn h ≤ hn h19 ∧ ∀ k : Nat, X "java/lang/IllegalArgumentException" (nGb h19 k)))) ∧ ((r1 = 0) → hn h ≤ hn h1 ∧ ∀ k : Nat, X "java/lang/IndexOutOfBoundsException" (nGb h1 k)))
set_option maxRecDepth 100000 in
set_option maxHeartbeats 4000000 in
theorem met_X6_set (G : GG) (l : Launch) : ∀ (As : List Value) (a0 : Nat) (a1 : Int) (a2 : Int) (h : AH) (Q : Int → AH → Prop), As.map ab = List.map some ([vR a0, vI a1, vI a2] : List AV) → w_X6_set G.2.2 a0 a1 a2 h Q (fun _ _ => False) → Met l yX6_set (.code yX6_set cX6_set 4 (some .int) :: xTb) ({ frames := 4, cells := 0, slots := 0, locals := 104 } : Room) (PcA G As h) (QG G (oI Q)) 0 0 (frA G) := by
  intro As a0 a1 a2 h Q hA hw
  refine met_of hA (by decide) (Nat.le_of_ble_eq_true rfl) (fun p e s m args below meth c C hml hr hnm => ?_)
  unfold w_X6_set at hw
  refine aw_iload_n (pc := 0) C dX6_set_0 rfl rfl ?_
  refine aw_callS (pc := 1) (as := [vI a1]) C (fun As hA => met_X6_isSetting G l As a1 _ _ hA hw) tw628 tw629 tw1 tw630 ⟨rfl, rfl⟩ ⟨by decide, by decide, pd_X6_isSetting⟩ ⟨Nat.le_of_ble_eq_true rfl, Nat.le_of_ble_eq_true rfl⟩ ⟨(Nat.le_of_ble_eq_true rfl), (Nat.le_of_ble_eq_true rfl)⟩ (Nat.le_of_ble_eq_true rfl) dX6_set_1 rfl (fun v9 h1 hq9 => ?_)
  obtain ⟨r1, rfl, hw⟩ := hq9
  refine aw_if_ne (pc := 4) (tgt := 17) C dX6_set_4 (by decide) (fun hc9 => ?_) (fun hc9 => ?_)
  · have hw := hw.1 hc9
    refine aw_iload_n (pc := 17) C dX6_set_17 rfl rfl ?_
    refine aw_iload_n (pc := 18) C dX6_set_18 rfl rfl ?_
    refine aw_callS (pc := 19) (as := [vI a1, vI a2]) C (fun As hA => met_X6_isValue G l As a1 a2 _ _ hA hw) tw734 tw735 tw1 tw736 ⟨rfl, rfl⟩ ⟨by decide, by decide, pd_X6_isValue⟩ ⟨Nat.le_of_ble_eq_true rfl, Nat.le_of_ble_eq_true rfl⟩ ⟨(Nat.le_of_ble_eq_true rfl), (Nat.le_of_ble_eq_true rfl)⟩ (Nat.le_of_ble_eq_true rfl) dX6_set_19 rfl (fun v9 h19 hq9 => ?_)
    obtain ⟨r19, rfl, hw⟩ := hq9
    refine aw_if_ne (pc := 22) (tgt := 35) C dX6_set_22 (by decide) (fun hc9 => ?_) (fun hc9 => ?_)
    · have hw := hw.1 hc9
      refine aw_aload_n (pc := 35) C dX6_set_35 rfl rfl ?_
      obtain ⟨hp9, hw⟩ := hw
      refine aw_callV (pc := 36) (as := []) C ci6 (fun As hA => met_X6_save G l As a0 _ _ hA hw) tw686 tw688 (tbp 29 (n := 8) (by decide +kernel)) tw1 tw689 ⟨rfl, rfl⟩ ⟨rfl, by decide, by decide, pd_X6_save⟩ ⟨Nat.le_of_ble_eq_true rfl, Nat.le_of_ble_eq_true rfl⟩ ⟨(Nat.le_of_ble_eq_true rfl), (Nat.le_of_ble_eq_true rfl)⟩ (Nat.le_of_ble_eq_true rfl) dX6_set_36 rfl hp9 (fun v9 h36 hq9 => ?_)
      obtain ⟨rfl, hw⟩ := hq9
      refine aw_aload_n (pc := 39) C dX6_set_39 rfl rfl ?_
      obtain ⟨hp9, b40, hb9, hw⟩ := hw
      refine aw_getR (pc := 40) C (ci := 6) (k := 0) ci6 (by decide) tw218 dX6_set_40 rfl hp9 hb9 ?_
      obtain ⟨hp9, b43, hb9, hw⟩ := hw
      refine aw_getR (pc := 43) C (ci := 4) (k := 0) ci4 (by decide) tw66 dX6_set_43 rfl hp9 hb9 ?_
      refine aw_iload_n (pc := 46) C dX6_set_46 rfl rfl ?_
      obtain ⟨⟨k9, hp9⟩, hw⟩ := hw
      refine aw_iald (pc := 47) C dX6_set_47 hp9 ?_
      refine aw_nmI (fun x3_48 e9 => ?_)
      have hw := hw x3_48 e9
      refine aw_istore_n (pc := 48) C dX6_set_48 rfl (by rw [hml]; decide) ?_
      refine aw_aload_n (pc := 49) C dX6_set_49 rfl rfl ?_
      obtain ⟨hp9, b50, hb9, hw⟩ := hw
      refine aw_getR (pc := 50) C (ci := 6) (k := 0) ci6 (by decide) tw218 dX6_set_50 rfl hp9 hb9 ?_
      obtain ⟨hp9, b53, hb9, hw⟩ := hw
      refine aw_getR (pc := 53) C (ci := 4) (k := 0) ci4 (by decide) tw66 dX6_set_53 rfl hp9 hb9 ?_
      refine aw_iload_n (pc := 56) C dX6_set_56 rfl rfl ?_
      refine aw_iload_n (pc := 57) C dX6_set_57 rfl rfl ?_
      obtain ⟨⟨k9, hp9⟩, hw⟩ := hw
      refine aw_iast (pc := 58) C dX6_set_58 hp9 (aw_nmH (fun h58 e9 => ?_))
      have hw := hw h58 e9
      refine aw_iload_n (pc := 59) C dX6_set_59 rfl rfl ?_
      exact aw_iret (pc := 60) C hr dX6_set_60 ⟨Nat.le_of_ble_eq_true rfl, Nat.le_of_ble_eq_true rfl⟩ ⟨_, rfl, hw⟩
    · have hw := hw.2 hc9
      exact False.elim (hw.2 0)
  · have hw := hw.2 hc9
    exact False.elim (hw.2 0)
theorem dX6_load_0 : decode cX6_load 0 = .ok (.iload_n 1, 1) := by decide +kernel
theorem dX6_load_1 : decode cX6_load 1 = .ok (.invokestatic 89, 3) := by decide +kernel
theorem dX6_load_4 : decode cX6_load 4 = .ok (.ifCond .ne 13, 3) := by decide +kernel
theorem dX6_load_7 : decode cX6_load 7 = .ok (.new 69, 3) := by decide +kernel
theorem dX6_load_10 : decode cX6_load 10 = .ok (.dup, 1) := by decide +kernel
theorem dX6_load_11 : decode cX6_load 11 = .ok (.ldc 92, 2) := by decide +kernel
theorem dX6_load_13 : decode cX6_load 13 = .ok (.invokespecial 73, 3) := by decide +kernel
theorem dX6_load_16 : decode cX6_load 16 = .ok (.athrow, 1) := by decide +kernel
theorem dX6_load_17 : decode cX6_load 17 = .ok (.aload_n 0, 1) := by decide +kernel
theorem dX6_load_18 : decode cX6_load 18 = .ok (.getfield 38, 3) := by decide +kernel
theorem dX6_load_21 : decode cX6_load 21 = .ok (.invokevirtual 94, 3) := by decide +kernel
theorem dX6_load_24 : decode cX6_load 24 = .ok (.aload_n 0, 1) := by decide +kernel
theorem dX6_load_25 : decode cX6_load 25 = .ok (.getfield 38, 3) := by decide +kernel
theorem dX6_load_28 : decode cX6_load 28 = .ok (.getfield 98, 3) := by decide +kernel
theorem dX6_load_31 : decode cX6_load 31 = .ok (.if_icmp .ge 13, 3) := by decide +kernel
theorem dX6_load_34 : decode cX6_load 34 = .ok (.new 80, 3) := by decide +kernel
theorem dX6_load_37 : decode cX6_load 37 = .ok (.dup, 1) := by decide +kernel
theorem dX6_load_38 : decode cX6_load 38 = .ok (.ldc 101, 2) := by decide +kernel
theorem dX6_load_40 : decode cX6_load 40 = .ok (.invokespecial 84, 3) := by decide +kernel
theorem dX6_load_43 : decode cX6_load 43 = .ok (.athrow, 1) := by decide +kernel
theorem dX6_load_44 : decode cX6_load 44 = .ok (.aload_n 0, 1) := by decide +kernel
theorem dX6_load_45 : decode cX6_load 45 = .ok (.invokevirtual 50, 3) := by decide +kernel
theorem dX6_load_48 : decode cX6_load 48 = .ok (.aload_n 0, 1) := by decide +kernel
theorem dX6_load_49 : decode cX6_load 49 = .ok (.getfield 12, 3) := by decide +kernel
theorem dX6_load_52 : decode cX6_load 52 = .ok (.iload_n 1, 1) := by decide +kernel
theorem dX6_load_53 : decode cX6_load 53 = .ok (.invokevirtual 53, 3) := by decide +kernel
theorem dX6_load_56 : decode cX6_load 56 = .ok (.aload_n 0, 1) := by decide +kernel
theorem dX6_load_57 : decode cX6_load 57 = .ok (.getfield 38, 3) := by decide +kernel
theorem dX6_load_60 : decode cX6_load 60 = .ok (.getfield 103, 3) := by decide +kernel
theorem dX6_load_63 : decode cX6_load 63 = .ok (.invokevirtual 106, 3) := by decide +kernel
theorem dX6_load_66 : decode cX6_load 66 = .ok (.aload_n 0, 1) := by decide +kernel
theorem dX6_load_67 : decode cX6_load 67 = .ok (.getfield 38, 3) := by decide +kernel
theorem dX6_load_70 : decode cX6_load 70 = .ok (.iconst 0, 1) := by decide +kernel
theorem dX6_load_71 : decode cX6_load 71 = .ok (.putfield 98, 3) := by decide +kernel
theorem dX6_load_74 : decode cX6_load 74 = .ok (.aload_n 0, 1) := by decide +kernel
theorem dX6_load_75 : decode cX6_load 75 = .ok (.getfield 12, 3) := by decide +kernel
theorem dX6_load_78 : decode cX6_load 78 = .ok (.iload_n 1, 1) := by decide +kernel
theorem dX6_load_79 : decode cX6_load 79 = .ok (.invokevirtual 53, 3) := by decide +kernel
theorem dX6_load_82 : decode cX6_load 82 = .ok (.getfield 57, 3) := by decide +kernel
theorem dX6_load_85 : decode cX6_load 85 = .ok (.ireturn, 1) := by decide +kernel
theorem pd_X6_load : (parseMethodDescriptor yX6_load.desc).map (fun d => d.parameters.length) = some 1 := by decide +kernel
def w_X6_load (zz : Nat → Nat) (a0 : Nat) (a1 : Int) (h : AH) (Q : Int → AH → Prop) (X : String → AH → Prop) : Prop := w_X6_isText zz a1 h (fun (r1 : Int) (h1 : AH) => ((¬ r1 = 0) → okA h1 a0 6 ∧ ∃ b18 : Nat, hfR h1 a0 5 = some b18 ∧ okA h1 b18 0 ∧ w_X0_read zz b18 h1 (fun (r21 : Int) (h21 : AH) => okA h21 a0 6 ∧ ∃ b25 : Nat, hfR h21 a0 5 = some b25 ∧ okA h21 b25 0 ∧ (((hfI h21 b25 2) ≤ r21) → okA h21 a0 6 ∧ w_X6_save zz a0 h21 (fun  (h45 : AH) => okA h45 a0 6 ∧ ∃ b49 : Nat, hfR h45 a0 0 = some b49 ∧ okA h45 b49 4 ∧ w_X4_text zz b49 a1 h45 (fun (r53 : Nat) (h53 : AH) => okA h53 a0 6 ∧ ∃ b57 : Nat, hfR h53 a0 5 = some b57 ∧ okA h53 b57 0 ∧ ∃ b60 : Nat, hfR h53 b57 1 = some b60 ∧ okA h53 r53 5 ∧ w_X5_takeCodes zz r53 b60 h53 (fun  (h63 : AH) => okA h63 a0 6 ∧ ∃ b67 : Nat, hfR h63 a0 5 = some b67 ∧ okP h63 b67 0 ∧ ∀ h71 : AH, h71 = sfI h63 b67 2 (0 : Int) → okA h71 a0 6 ∧ ∃ b75 : Nat, hfR h71 a0 0 = some b75 ∧ okA h71 b75 4 ∧ w_X4_text zz b75 a1 h71 (fun (r79 : Nat) (h79 : AH) => okA h79 r79 5 ∧ Q (hfI h79 r79 2) h79))))) ∧ ((¬ ((hfI h21 b25 2) ≤ r21)) → hn h ≤ hn h21 ∧ ∀ k : Nat, X "java/lang/IllegalArgumentException" (nGb h21 k)))) ∧ ((r1 = 0) → hn h ≤ hn h1 ∧ ∀ k : Nat, X "java/lang/IndexOutOfBoundsException" (nGb h1 k)))
set_option maxRecDepth 100000 in
set_option maxHeartbeats 4000000 in
theorem met_X6_load (G : GG) (l : Launch) : ∀ (As : List Value) (a0 : Nat) (a1 : Int) (h : AH) (Q : Int → AH → Prop), As.map ab = List.map some ([vR a0, vI a1] : List AV) → w_X6_load G.2.2 a0 a1 h Q (fun _ _ => False) → Met l yX6_load (.code yX6_load cX6_load 2 (some .int) :: xTb) ({ frames := 4, cells := 0, slots := 0, locals := 104 } : Room) (PcA G As h) (QG G (oI Q)) 0 0 (frA G) := by
  intro As a0 a1 h Q hA hw
  refine met_of hA (by decide) (Nat.le_of_ble_eq_true rfl) (fun p e s m args below meth c C hml hr hnm => ?_)
  unfold w_X6_load at hw
  refine aw_iload_n (pc := 0) C dX6_load_0 rfl rfl ?_
  refine aw_callS (pc := 1) (as := [vI a1]) C (fun As hA => met_X6_isText G l As a1 _ _ hA hw) tw604 tw605 tw1 tw606 ⟨rfl, rfl⟩ ⟨by decide, by decide, pd_X6_isText⟩ ⟨Nat.le_of_ble_eq_true rfl, Nat.le_of_ble_eq_true rfl⟩ ⟨(Nat.le_of_ble_eq_true rfl), (Nat.le_of_ble_eq_true rfl)⟩ (Nat.le_of_ble_eq_true rfl) dX6_load_1 rfl (fun v9 h1 hq9 => ?_)
  obtain ⟨r1, rfl, hw⟩ := hq9
  refine aw_if_ne (pc := 4) (tgt := 17) C dX6_load_4 (by decide) (fun hc9 => ?_) (fun hc9 => ?_)
  · have hw := hw.1 hc9
    refine aw_aload_n (pc := 17) C dX6_load_17 rfl rfl ?_
    obtain ⟨hp9, b18, hb9, hw⟩ := hw
    refine aw_getR (pc := 18) C (ci := 6) (k := 5) ci6 (by decide) tw223 dX6_load_18 rfl hp9 hb9 ?_
    obtain ⟨hp9, hw⟩ := hw
    refine aw_callV (pc := 21) (as := []) C ci0 (fun As hA => met_X0_read G l As b18 _ _ hA hw) tw672 tw673 tw674 tw9 tw675 ⟨rfl, rfl⟩ ⟨rfl, by decide, by decide, pd_X0_read⟩ ⟨Nat.le_of_ble_eq_true rfl, Nat.le_of_ble_eq_true rfl⟩ ⟨(Nat.le_of_ble_eq_true rfl), (Nat.le_of_ble_eq_true rfl)⟩ (Nat.le_of_ble_eq_true rfl) dX6_load_21 rfl hp9 (fun v9 h21 hq9 => ?_)
    obtain ⟨r21, rfl, hw⟩ := hq9
    refine aw_aload_n (pc := 24) C dX6_load_24 rfl rfl ?_
    obtain ⟨hp9, b25, hb9, hw⟩ := hw
    refine aw_getR (pc := 25) C (ci := 6) (k := 5) ci6 (by decide) tw223 dX6_load_25 rfl hp9 hb9 ?_
    obtain ⟨hp9, hw⟩ := hw
    refine aw_getI (pc := 28) C (ci := 0) (k := 2) ci0 (by decide) tw210 dX6_load_28 rfl hp9 ?_
    refine aw_icmp_ge (pc := 31) (tgt := 44) C dX6_load_31 (by decide) (fun hc9 => ?_) (fun hc9 => ?_)
    · have hw := hw.1 hc9
      refine aw_aload_n (pc := 44) C dX6_load_44 rfl rfl ?_
      obtain ⟨hp9, hw⟩ := hw
      refine aw_callV (pc := 45) (as := []) C ci6 (fun As hA => met_X6_save G l As a0 _ _ hA hw) tw686 tw688 (tbp 29 (n := 8) (by decide +kernel)) tw1 tw689 ⟨rfl, rfl⟩ ⟨rfl, by decide, by decide, pd_X6_save⟩ ⟨Nat.le_of_ble_eq_true rfl, Nat.le_of_ble_eq_true rfl⟩ ⟨(Nat.le_of_ble_eq_true rfl), (Nat.le_of_ble_eq_true rfl)⟩ (Nat.le_of_ble_eq_true rfl) dX6_load_45 rfl hp9 (fun v9 h45 hq9 => ?_)
      obtain ⟨rfl, hw⟩ := hq9
      refine aw_aload_n (pc := 48) C dX6_load_48 rfl rfl ?_
      obtain ⟨hp9, b49, hb9, hw⟩ := hw
      refine aw_getR (pc := 49) C (ci := 6) (k := 0) ci6 (by decide) tw218 dX6_load_49 rfl hp9 hb9 ?_
      refine aw_iload_n (pc := 52) C dX6_load_52 rfl rfl ?_
      obtain ⟨hp9, hw⟩ := hw
      refine aw_callV (pc := 53) (as := [vI a1]) C ci4 (fun As hA => met_X4_text G l As b49 a1 _ _ hA hw) tw552 tw333 tw334 tw2 tw335 ⟨rfl, rfl⟩ ⟨rfl, by decide, by decide, pd_X4_text⟩ ⟨Nat.le_of_ble_eq_true rfl, Nat.le_of_ble_eq_true rfl⟩ ⟨(Nat.le_of_ble_eq_true rfl), (Nat.le_of_ble_eq_true rfl)⟩ (Nat.le_of_ble_eq_true rfl) dX6_load_53 rfl hp9 (fun v9 h53 hq9 => ?_)
      obtain ⟨r53, rfl, hw⟩ := hq9
      refine aw_aload_n (pc := 56) C dX6_load_56 rfl rfl ?_
      obtain ⟨hp9, b57, hb9, hw⟩ := hw
      refine aw_getR (pc := 57) C (ci := 6) (k := 5) ci6 (by decide) tw223 dX6_load_57 rfl hp9 hb9 ?_
      obtain ⟨hp9, b60, hb9, hw⟩ := hw
      refine aw_getR (pc := 60) C (ci := 0) (k := 1) ci0 (by decide) tw208 dX6_load_60 rfl hp9 hb9 ?_
      obtain ⟨hp9, hw⟩ := hw
      refine aw_callV (pc := 63) (as := [vR b60]) C ci5 (fun As hA => met_X5_takeCodes G l As r53 b60 _ _ hA hw) tw699 tw700 tw701 tw3 tw702 ⟨rfl, rfl⟩ ⟨rfl, by decide, by decide, pd_X5_takeCodes⟩ ⟨Nat.le_of_ble_eq_true rfl, Nat.le_of_ble_eq_true rfl⟩ ⟨(Nat.le_of_ble_eq_true rfl), (Nat.le_of_ble_eq_true rfl)⟩ (Nat.le_of_ble_eq_true rfl) dX6_load_63 rfl hp9 (fun v9 h63 hq9 => ?_)
      obtain ⟨rfl, hw⟩ := hq9
      refine aw_aload_n (pc := 66) C dX6_load_66 rfl rfl ?_
      obtain ⟨hp9, b67, hb9, hw⟩ := hw
      refine aw_getR (pc := 67) C (ci := 6) (k := 5) ci6 (by decide) tw223 dX6_load_67 rfl hp9 hb9 ?_
      refine aw_iconst (pc := 70) C dX6_load_70 (i := (0 : Int)) (by decide) ?_
      obtain ⟨hp9, hw⟩ := hw
      refine aw_putI (pc := 71) C (ci := 0) (k := 2) ci0 (by decide) tw210 (Or.inl rfl) dX6_load_71 rfl hp9 (aw_nmH (fun h71 e9 => ?_))
      have hw := hw h71 e9
      refine aw_aload_n (pc := 74) C dX6_load_74 rfl rfl ?_
      obtain ⟨hp9, b75, hb9, hw⟩ := hw
      refine aw_getR (pc := 75) C (ci := 6) (k := 0) ci6 (by decide) tw218 dX6_load_75 rfl hp9 hb9 ?_
      refine aw_iload_n (pc := 78) C dX6_load_78 rfl rfl ?_
      obtain ⟨hp9, hw⟩ := hw
      refine aw_callV (pc := 79) (as := [vI a1]) C ci4 (fun As hA => met_X4_text G l As b75 a1 _ _ hA hw) tw552 tw333 tw334 tw2 tw335 ⟨rfl, rfl⟩ ⟨rfl, by decide, by decide, pd_X4_text⟩ ⟨Nat.le_of_ble_eq_true rfl, Nat.le_of_ble_eq_true rfl⟩ ⟨(Nat.le_of_ble_eq_true rfl), (Nat.le_of_ble_eq_true rfl)⟩ (Nat.le_of_ble_eq_true rfl) dX6_load_79 rfl hp9 (fun v9 h79 hq9 => ?_)
      obtain ⟨r79, rfl, hw⟩ := hq9
      obtain ⟨hp9, hw⟩ := hw
      refine aw_getI (pc := 82) C (ci := 5) (k := 2) ci5 (by decide) tw49 dX6_load_82 rfl hp9 ?_
      exact aw_iret (pc := 85) C hr dX6_load_85 ⟨Nat.le_of_ble_eq_true rfl, Nat.le_of_ble_eq_true rfl⟩ ⟨_, rfl, hw⟩
    · have hw := hw.2 hc9
      exact False.elim (hw.2 0)
  · have hw := hw.2 hc9
    exact False.elim (hw.2 0)
theorem dX6_put_0 : decode cX6_put 0 = .ok (.iload_n 1, 1) := by decide +kernel
theorem dX6_put_1 : decode cX6_put 1 = .ok (.invokestatic 89, 3) := by decide +kernel
theorem dX6_put_4 : decode cX6_put 4 = .ok (.ifCond .eq 11, 3) := by decide +kernel
theorem dX6_put_7 : decode cX6_put 7 = .ok (.iload_n 2, 1) := by decide +kernel
theorem dX6_put_8 : decode cX6_put 8 = .ok (.iload_n 3, 1) := by decide +kernel
theorem dX6_put_9 : decode cX6_put 9 = .ok (.invokestatic 110, 3) := by decide +kernel
theorem dX6_put_12 : decode cX6_put 12 = .ok (.ifCond .ne 13, 3) := by decide +kernel
theorem dX6_put_15 : decode cX6_put 15 = .ok (.new 69, 3) := by decide +kernel
theorem dX6_put_18 : decode cX6_put 18 = .ok (.dup, 1) := by decide +kernel
theorem dX6_put_19 : decode cX6_put 19 = .ok (.ldc 113, 2) := by decide +kernel
theorem dX6_put_21 : decode cX6_put 21 = .ok (.invokespecial 73, 3) := by decide +kernel
theorem dX6_put_24 : decode cX6_put 24 = .ok (.athrow, 1) := by decide +kernel
theorem dX6_put_25 : decode cX6_put 25 = .ok (.iload 4, 2) := by decide +kernel
theorem dX6_put_27 : decode cX6_put 27 = .ok (.invokestatic 115, 3) := by decide +kernel
theorem dX6_put_30 : decode cX6_put 30 = .ok (.ifCond .ne 20, 3) := by decide +kernel
theorem dX6_put_33 : decode cX6_put 33 = .ok (.iload 4, 2) := by decide +kernel
theorem dX6_put_35 : decode cX6_put 35 = .ok (.bipush 32, 2) := by decide +kernel
theorem dX6_put_37 : decode cX6_put 37 = .ok (.if_icmp .eq 13, 3) := by decide +kernel
theorem dX6_put_40 : decode cX6_put 40 = .ok (.new 80, 3) := by decide +kernel
theorem dX6_put_43 : decode cX6_put 43 = .ok (.dup, 1) := by decide +kernel
theorem dX6_put_44 : decode cX6_put 44 = .ok (.ldc 118, 2) := by decide +kernel
theorem dX6_put_46 : decode cX6_put 46 = .ok (.invokespecial 84, 3) := by decide +kernel
theorem dX6_put_49 : decode cX6_put 49 = .ok (.athrow, 1) := by decide +kernel
theorem dX6_put_50 : decode cX6_put 50 = .ok (.bipush 16, 2) := by decide +kernel
theorem dX6_put_52 : decode cX6_put 52 = .ok (.iload_n 2, 1) := by decide +kernel
theorem dX6_put_53 : decode cX6_put 53 = .ok (.imul, 1) := by decide +kernel
theorem dX6_put_54 : decode cX6_put 54 = .ok (.iload_n 3, 1) := by decide +kernel
theorem dX6_put_55 : decode cX6_put 55 = .ok (.iadd, 1) := by decide +kernel
theorem dX6_put_56 : decode cX6_put 56 = .ok (.istore 5, 2) := by decide +kernel
theorem dX6_put_58 : decode cX6_put 58 = .ok (.aload_n 0, 1) := by decide +kernel
theorem dX6_put_59 : decode cX6_put 59 = .ok (.getfield 12, 3) := by decide +kernel
theorem dX6_put_62 : decode cX6_put 62 = .ok (.iload_n 1, 1) := by decide +kernel
theorem dX6_put_63 : decode cX6_put 63 = .ok (.invokevirtual 53, 3) := by decide +kernel
theorem dX6_put_66 : decode cX6_put 66 = .ok (.getfield 120, 3) := by decide +kernel
theorem dX6_put_69 : decode cX6_put 69 = .ok (.iload 5, 2) := by decide +kernel
theorem dX6_put_71 : decode cX6_put 71 = .ok (.iaload, 1) := by decide +kernel
theorem dX6_put_72 : decode cX6_put 72 = .ok (.istore 6, 2) := by decide +kernel
theorem dX6_put_74 : decode cX6_put 74 = .ok (.iload 4, 2) := by decide +kernel
theorem dX6_put_76 : decode cX6_put 76 = .ok (.bipush 32, 2) := by decide +kernel
theorem dX6_put_78 : decode cX6_put 78 = .ok (.if_icmp .eq 36, 3) := by decide +kernel
theorem dX6_put_81 : decode cX6_put 81 = .ok (.iload 6, 2) := by decide +kernel
theorem dX6_put_83 : decode cX6_put 83 = .ok (.bipush 32, 2) := by decide +kernel
theorem dX6_put_85 : decode cX6_put 85 = .ok (.if_icmp .ne 29, 3) := by decide +kernel
theorem dX6_put_88 : decode cX6_put 88 = .ok (.aload_n 0, 1) := by decide +kernel
theorem dX6_put_89 : decode cX6_put 89 = .ok (.getfield 12, 3) := by decide +kernel
theorem dX6_put_92 : decode cX6_put 92 = .ok (.iload_n 1, 1) := by decide +kernel
theorem dX6_put_93 : decode cX6_put 93 = .ok (.invokevirtual 53, 3) := by decide +kernel
theorem dX6_put_96 : decode cX6_put 96 = .ok (.getfield 57, 3) := by decide +kernel
theorem dX6_put_99 : decode cX6_put 99 = .ok (.bipush 40, 2) := by decide +kernel
theorem dX6_put_101 : decode cX6_put 101 = .ok (.if_icmp .lt 13, 3) := by decide +kernel
theorem dX6_put_104 : decode cX6_put 104 = .ok (.new 123, 3) := by decide +kernel
theorem dX6_put_107 : decode cX6_put 107 = .ok (.dup, 1) := by decide +kernel
theorem dX6_put_108 : decode cX6_put 108 = .ok (.ldc 125, 2) := by decide +kernel
theorem dX6_put_110 : decode cX6_put 110 = .ok (.invokespecial 127, 3) := by decide +kernel
theorem dX6_put_113 : decode cX6_put 113 = .ok (.athrow, 1) := by decide +kernel
theorem dX6_put_114 : decode cX6_put 114 = .ok (.aload_n 0, 1) := by decide +kernel
theorem dX6_put_115 : decode cX6_put 115 = .ok (.invokevirtual 50, 3) := by decide +kernel
theorem dX6_put_118 : decode cX6_put 118 = .ok (.aload_n 0, 1) := by decide +kernel
theorem dX6_put_119 : decode cX6_put 119 = .ok (.getfield 12, 3) := by decide +kernel
theorem dX6_put_122 : decode cX6_put 122 = .ok (.iload_n 1, 1) := by decide +kernel
theorem dX6_put_123 : decode cX6_put 123 = .ok (.invokevirtual 53, 3) := by decide +kernel
theorem dX6_put_126 : decode cX6_put 126 = .ok (.iload 5, 2) := by decide +kernel
theorem dX6_put_128 : decode cX6_put 128 = .ok (.iload 4, 2) := by decide +kernel
theorem dX6_put_130 : decode cX6_put 130 = .ok (.invokevirtual 128, 3) := by decide +kernel
theorem dX6_put_133 : decode cX6_put 133 = .ok (.iload 6, 2) := by decide +kernel
theorem dX6_put_135 : decode cX6_put 135 = .ok (.ireturn, 1) := by decide +kernel
theorem pd_X6_put : (parseMethodDescriptor yX6_put.desc).map (fun d => d.parameters.length) = some 4 := by decide +kernel
def w_X6_put (zz : Nat → Nat) (a0 : Nat) (a1 : Int) (a2 : Int) (a3 : Int) (a4 : Int) (h : AH) (Q : Int → AH → Prop) (X : String → AH → Prop) : Prop := w_X6_isText zz a1 h (fun (r1 : Int) (h1 : AH) => jn (fun  (h_15 : AH) => hn h ≤ hn h_15 ∧ ∀ k : Nat, X "java/lang/IndexOutOfBoundsException" (nGb h_15 k)) (fun k_15 : AH → Prop => ((r1 = 0) → k_15  h1) ∧ ((¬ (r1 = 0)) → w_X6_isCell zz a2 a3 h1 (fun (r9 : Int) (h9 : AH) => ((¬ r9 = 0) → w_X6_isLetter zz a4 h9 (fun (r27 : Int) (h27 : AH) => jn (fun  (h_50 : AH) => inR ((16 : Int) * a2) ∧ inR (((16 : Int) * a2) + a3) ∧ ∀ x5_56 : Int, x5_56 = (((16 : Int) * a2) + a3) → okA h_50 a0 6 ∧ ∃ b59 : Nat, hfR h_50 a0 0 = some b59 ∧ okA h_50 b59 4 ∧ w_X4_text zz b59 a1 h_50 (fun (r63 : Nat) (h63 : AH) => okA h63 r63 5 ∧ ∃ b66 : Nat, hfR h63 r63 0 = some b66 ∧ okI h63 b66 x5_56 ∧ ∀ x6_72 : Int, x6_72 = (haI h63 b66 x5_56) → jn (fun  (h_114 : AH) => okA h_114 a0 6 ∧ w_X6_save zz a0 h_114 (fun  (h115 : AH) => okA h115 a0 6 ∧ ∃ b119 : Nat, hfR h115 a0 0 = some b119 ∧ okA h115 b119 4 ∧ w_X4_text zz b119 a1 h115 (fun (r123 : Nat) (h123 : AH) => okA h123 r123 5 ∧ w_X5_write zz r123 x5_56 a4 h123 (fun  (h130 : AH) => Q x6_72 h130)))) (fun k_114 : AH → Prop => ((a4 = (32 : Int)) → k_114  h63) ∧ ((¬ (a4 = (32 : Int))) → ((¬ x6_72 = (32 : Int)) → k_114  h63) ∧ ((x6_72 = (32 : Int)) → okA h63 a0 6 ∧ ∃ b89 : Nat, hfR h63 a0 0 = some b89 ∧ okA h63 b89 4 ∧ w_X4_text zz b89 a1 h63 (fun (r93 : Nat) (h93 : AH) => okA h93 r93 5 ∧ (((hfI h93 r93 2) < (40 : Int)) → k_114  h93) ∧ ((¬ ((hfI h93 r93 2) < (40 : Int))) → hn h ≤ hn h93 ∧ ∀ k : Nat, X "java/lang/IllegalStateException" (nGb h93 k)))))))) (fun k_50 : AH → Prop => ((¬ r27 = 0) → k_50  h27) ∧ ((r27 = 0) → ((a4 = (32 : Int)) → k_50  h27) ∧ ((¬ (a4 = (32 : Int))) → hn h ≤ hn h27 ∧ ∀ k : Nat, X "java/lang/IllegalArgumentException" (nGb h27 k)))))) ∧ ((r9 = 0) → k_15  h9)))))
set_option maxRecDepth 100000 in
set_option maxHeartbeats 4000000 in
theorem met_X6_put (G : GG) (l : Launch) : ∀ (As : List Value) (a0 : Nat) (a1 : Int) (a2 : Int) (a3 : Int) (a4 : Int) (h : AH) (Q : Int → AH → Prop), As.map ab = List.map some ([vR a0, vI a1, vI a2, vI a3, vI a4] : List AV) → w_X6_put G.2.2 a0 a1 a2 a3 a4 h Q (fun _ _ => False) → Met l yX6_put (.code yX6_put cX6_put 7 (some .int) :: xTb) ({ frames := 4, cells := 0, slots := 0, locals := 104 } : Room) (PcA G As h) (QG G (oI Q)) 0 0 (frA G) := by
  intro As a0 a1 a2 a3 a4 h Q hA hw
  refine met_of hA (by decide) (Nat.le_of_ble_eq_true rfl) (fun p e s m args below meth c C hml hr hnm => ?_)
  unfold w_X6_put at hw
  refine aw_iload_n (pc := 0) C dX6_put_0 rfl rfl ?_
  refine aw_callS (pc := 1) (as := [vI a1]) C (fun As hA => met_X6_isText G l As a1 _ _ hA hw) tw604 tw605 tw1 tw606 ⟨rfl, rfl⟩ ⟨by decide, by decide, pd_X6_isText⟩ ⟨Nat.le_of_ble_eq_true rfl, Nat.le_of_ble_eq_true rfl⟩ ⟨(Nat.le_of_ble_eq_true rfl), (Nat.le_of_ble_eq_true rfl)⟩ (Nat.le_of_ble_eq_true rfl) dX6_put_1 rfl (fun v9 h1 hq9 => ?_)
  obtain ⟨r1, rfl, hw⟩ := hq9
  obtain ⟨k_15, hk_15, hw⟩ := jn_out hw
  have J_15 : ∀  (h_15 : AH), k_15  h_15 → AW G p l e ({ frames := 4, cells := 0, slots := 0, locals := 104 } : Room) s m args below meth c 0 0 (MQ below (QG G (oI Q)) args s 0 0 (frA G)) 15 (eOf []) [] h_15 := by
    intro  h_15 hw
    rw [hk_15] at hw
    exact False.elim (hw.2 0)
  refine aw_if_eq (pc := 4) (tgt := 15) C dX6_put_4 (by decide) (fun hc9 => ?_) (fun hc9 => ?_)
  · have hw := hw.1 hc9
    refine aw_sub [] trivial ?_
    exact J_15  _ hw
  · have hw := hw.2 hc9
    refine aw_iload_n (pc := 7) C dX6_put_7 rfl rfl ?_
    refine aw_iload_n (pc := 8) C dX6_put_8 rfl rfl ?_
    refine aw_callS (pc := 9) (as := [vI a2, vI a3]) C (fun As hA => met_X6_isCell G l As a2 a3 _ _ hA hw) tw486 tw487 tw1 tw488 ⟨rfl, rfl⟩ ⟨by decide, by decide, pd_X6_isCell⟩ ⟨Nat.le_of_ble_eq_true rfl, Nat.le_of_ble_eq_true rfl⟩ ⟨(Nat.le_of_ble_eq_true rfl), (Nat.le_of_ble_eq_true rfl)⟩ (Nat.le_of_ble_eq_true rfl) dX6_put_9 rfl (fun v9 h9 hq9 => ?_)
    obtain ⟨r9, rfl, hw⟩ := hq9
    refine aw_if_ne (pc := 12) (tgt := 25) C dX6_put_12 (by decide) (fun hc9 => ?_) (fun hc9 => ?_)
    · have hw := hw.1 hc9
      refine aw_iload (pc := 25) C dX6_put_25 rfl ?_
      refine aw_callS (pc := 27) (as := [vI a4]) C (fun As hA => met_X6_isLetter G l As a4 _ _ hA hw) tw712 tw678 tw1 tw679 ⟨rfl, rfl⟩ ⟨by decide, by decide, pd_X6_isLetter⟩ ⟨Nat.le_of_ble_eq_true rfl, Nat.le_of_ble_eq_true rfl⟩ ⟨(Nat.le_of_ble_eq_true rfl), (Nat.le_of_ble_eq_true rfl)⟩ (Nat.le_of_ble_eq_true rfl) dX6_put_27 rfl (fun v9 h27 hq9 => ?_)
      obtain ⟨r27, rfl, hw⟩ := hq9
      obtain ⟨k_50, hk_50, hw⟩ := jn_out hw
      have J_50 : ∀  (h_50 : AH), k_50  h_50 → AW G p l e ({ frames := 4, cells := 0, slots := 0, locals := 104 } : Room) s m args below meth c 0 0 (MQ below (QG G (oI Q)) args s 0 0 (frA G)) 50 (eOf [(0, vR a0), (1, vI a1), (2, vI a2), (3, vI a3), (4, vI a4)]) [] h_50 := by
        intro  h_50 hw
        rw [hk_50] at hw
        refine aw_bipush (pc := 50) C dX6_put_50 (i := (16 : Int)) (by decide) ?_
        refine aw_iload_n (pc := 52) C dX6_put_52 rfl rfl ?_
        obtain ⟨hp9, hw⟩ := hw
        refine aw_imul (pc := 53) C dX6_put_53 hp9 ?_
        refine aw_iload_n (pc := 54) C dX6_put_54 rfl rfl ?_
        obtain ⟨hp9, hw⟩ := hw
        refine aw_iadd (pc := 55) C dX6_put_55 hp9 ?_
        refine aw_nmI (fun x5_56 e9 => ?_)
        have hw := hw x5_56 e9
        refine aw_istore (pc := 56) C dX6_put_56 (by rw [hml]; decide) ?_
        refine aw_aload_n (pc := 58) C dX6_put_58 rfl rfl ?_
        obtain ⟨hp9, b59, hb9, hw⟩ := hw
        refine aw_getR (pc := 59) C (ci := 6) (k := 0) ci6 (by decide) tw218 dX6_put_59 rfl hp9 hb9 ?_
        refine aw_iload_n (pc := 62) C dX6_put_62 rfl rfl ?_
        obtain ⟨hp9, hw⟩ := hw
        refine aw_callV (pc := 63) (as := [vI a1]) C ci4 (fun As hA => met_X4_text G l As b59 a1 _ _ hA hw) tw552 tw333 tw334 tw2 tw335 ⟨rfl, rfl⟩ ⟨rfl, by decide, by decide, pd_X4_text⟩ ⟨Nat.le_of_ble_eq_true rfl, Nat.le_of_ble_eq_true rfl⟩ ⟨(Nat.le_of_ble_eq_true rfl), (Nat.le_of_ble_eq_true rfl)⟩ (Nat.le_of_ble_eq_true rfl) dX6_put_63 rfl hp9 (fun v9 h63 hq9 => ?_)
        obtain ⟨r63, rfl, hw⟩ := hq9
        obtain ⟨hp9, b66, hb9, hw⟩ := hw
        refine aw_getR (pc := 66) C (ci := 5) (k := 0) ci5 (by decide) tw41 dX6_put_66 rfl hp9 hb9 ?_
        refine aw_iload (pc := 69) C dX6_put_69 rfl ?_
        obtain ⟨⟨k9, hp9⟩, hw⟩ := hw
        refine aw_iald (pc := 71) C dX6_put_71 hp9 ?_
        refine aw_nmI (fun x6_72 e9 => ?_)
        have hw := hw x6_72 e9
        refine aw_istore (pc := 72) C dX6_put_72 (by rw [hml]; decide) ?_
        refine aw_iload (pc := 74) C dX6_put_74 rfl ?_
        refine aw_bipush (pc := 76) C dX6_put_76 (i := (32 : Int)) (by decide) ?_
        obtain ⟨k_114, hk_114, hw⟩ := jn_out hw
        have J_114 : ∀  (h_114 : AH), k_114  h_114 → AW G p l e ({ frames := 4, cells := 0, slots := 0, locals := 104 } : Room) s m args below meth c 0 0 (MQ below (QG G (oI Q)) args s 0 0 (frA G)) 114 (eOf [(0, vR a0), (1, vI a1), (4, vI a4), (5, vI x5_56), (6, vI x6_72)]) [] h_114 := by
          intro  h_114 hw
          rw [hk_114] at hw
          refine aw_aload_n (pc := 114) C dX6_put_114 rfl rfl ?_
          obtain ⟨hp9, hw⟩ := hw
          refine aw_callV (pc := 115) (as := []) C ci6 (fun As hA => met_X6_save G l As a0 _ _ hA hw) tw686 tw688 (tbp 29 (n := 8) (by decide +kernel)) tw1 tw689 ⟨rfl, rfl⟩ ⟨rfl, by decide, by decide, pd_X6_save⟩ ⟨Nat.le_of_ble_eq_true rfl, Nat.le_of_ble_eq_true rfl⟩ ⟨(Nat.le_of_ble_eq_true rfl), (Nat.le_of_ble_eq_true rfl)⟩ (Nat.le_of_ble_eq_true rfl) dX6_put_115 rfl hp9 (fun v9 h115 hq9 => ?_)
          obtain ⟨rfl, hw⟩ := hq9
          refine aw_aload_n (pc := 118) C dX6_put_118 rfl rfl ?_
          obtain ⟨hp9, b119, hb9, hw⟩ := hw
          refine aw_getR (pc := 119) C (ci := 6) (k := 0) ci6 (by decide) tw218 dX6_put_119 rfl hp9 hb9 ?_
          refine aw_iload_n (pc := 122) C dX6_put_122 rfl rfl ?_
          obtain ⟨hp9, hw⟩ := hw
          refine aw_callV (pc := 123) (as := [vI a1]) C ci4 (fun As hA => met_X4_text G l As b119 a1 _ _ hA hw) tw552 tw333 tw334 tw2 tw335 ⟨rfl, rfl⟩ ⟨rfl, by decide, by decide, pd_X4_text⟩ ⟨Nat.le_of_ble_eq_true rfl, Nat.le_of_ble_eq_true rfl⟩ ⟨(Nat.le_of_ble_eq_true rfl), (Nat.le_of_ble_eq_true rfl)⟩ (Nat.le_of_ble_eq_true rfl) dX6_put_123 rfl hp9 (fun v9 h123 hq9 => ?_)
          obtain ⟨r123, rfl, hw⟩ := hq9
          refine aw_iload (pc := 126) C dX6_put_126 rfl ?_
          refine aw_iload (pc := 128) C dX6_put_128 rfl ?_
          obtain ⟨hp9, hw⟩ := hw
          refine aw_callV (pc := 130) (as := [vI x5_56, vI a4]) C ci5 (fun As hA => met_X5_write G l As r123 x5_56 a4 _ _ hA hw) tw715 tw716 tw717 tw3 tw718 ⟨rfl, rfl⟩ ⟨rfl, by decide, by decide, pd_X5_write⟩ ⟨Nat.le_of_ble_eq_true rfl, Nat.le_of_ble_eq_true rfl⟩ ⟨(Nat.le_of_ble_eq_true rfl), (Nat.le_of_ble_eq_true rfl)⟩ (Nat.le_of_ble_eq_true rfl) dX6_put_130 rfl hp9 (fun v9 h130 hq9 => ?_)
          obtain ⟨rfl, hw⟩ := hq9
          refine aw_iload (pc := 133) C dX6_put_133 rfl ?_
          exact aw_iret (pc := 135) C hr dX6_put_135 ⟨Nat.le_of_ble_eq_true rfl, Nat.le_of_ble_eq_true rfl⟩ ⟨_, rfl, hw⟩
        refine aw_icmp_eq (pc := 78) (tgt := 114) C dX6_put_78 (by decide) (fun hc9 => ?_) (fun hc9 => ?_)
        · have hw := hw.1 hc9
          refine aw_sub [(0, vR a0), (1, vI a1), (4, vI a4), (5, vI x5_56), (6, vI x6_72)] ⟨rfl, rfl, rfl, rfl, rfl, trivial⟩ ?_
          exact J_114  _ hw
        · have hw := hw.2 hc9
          refine aw_iload (pc := 81) C dX6_put_81 rfl ?_
          refine aw_bipush (pc := 83) C dX6_put_83 (i := (32 : Int)) (by decide) ?_
          refine aw_icmp_ne (pc := 85) (tgt := 114) C dX6_put_85 (by decide) (fun hc9 => ?_) (fun hc9 => ?_)
          · have hw := hw.1 hc9
            refine aw_sub [(0, vR a0), (1, vI a1), (4, vI a4), (5, vI x5_56), (6, vI x6_72)] ⟨rfl, rfl, rfl, rfl, rfl, trivial⟩ ?_
            exact J_114  _ hw
          · have hw := hw.2 hc9
            refine aw_aload_n (pc := 88) C dX6_put_88 rfl rfl ?_
            obtain ⟨hp9, b89, hb9, hw⟩ := hw
            refine aw_getR (pc := 89) C (ci := 6) (k := 0) ci6 (by decide) tw218 dX6_put_89 rfl hp9 hb9 ?_
            refine aw_iload_n (pc := 92) C dX6_put_92 rfl rfl ?_
            obtain ⟨hp9, hw⟩ := hw
            refine aw_callV (pc := 93) (as := [vI a1]) C ci4 (fun As hA => met_X4_text G l As b89 a1 _ _ hA hw) tw552 tw333 tw334 tw2 tw335 ⟨rfl, rfl⟩ ⟨rfl, by decide, by decide, pd_X4_text⟩ ⟨Nat.le_of_ble_eq_true rfl, Nat.le_of_ble_eq_true rfl⟩ ⟨(Nat.le_of_ble_eq_true rfl), (Nat.le_of_ble_eq_true rfl)⟩ (Nat.le_of_ble_eq_true rfl) dX6_put_93 rfl hp9 (fun v9 h93 hq9 => ?_)
            obtain ⟨r93, rfl, hw⟩ := hq9
            obtain ⟨hp9, hw⟩ := hw
            refine aw_getI (pc := 96) C (ci := 5) (k := 2) ci5 (by decide) tw49 dX6_put_96 rfl hp9 ?_
            refine aw_bipush (pc := 99) C dX6_put_99 (i := (40 : Int)) (by decide) ?_
            refine aw_icmp_lt (pc := 101) (tgt := 114) C dX6_put_101 (by decide) (fun hc9 => ?_) (fun hc9 => ?_)
            · have hw := hw.1 hc9
              refine aw_sub [(0, vR a0), (1, vI a1), (4, vI a4), (5, vI x5_56), (6, vI x6_72)] ⟨rfl, rfl, rfl, rfl, rfl, trivial⟩ ?_
              exact J_114  _ hw
            · have hw := hw.2 hc9
              exact False.elim (hw.2 0)
      refine aw_if_ne (pc := 30) (tgt := 50) C dX6_put_30 (by decide) (fun hc9 => ?_) (fun hc9 => ?_)
      · have hw := hw.1 hc9
        refine aw_sub [(0, vR a0), (1, vI a1), (2, vI a2), (3, vI a3), (4, vI a4)] ⟨rfl, rfl, rfl, rfl, rfl, trivial⟩ ?_
        exact J_50  _ hw
      · have hw := hw.2 hc9
        refine aw_iload (pc := 33) C dX6_put_33 rfl ?_
        refine aw_bipush (pc := 35) C dX6_put_35 (i := (32 : Int)) (by decide) ?_
        refine aw_icmp_eq (pc := 37) (tgt := 50) C dX6_put_37 (by decide) (fun hc9 => ?_) (fun hc9 => ?_)
        · have hw := hw.1 hc9
          refine aw_sub [(0, vR a0), (1, vI a1), (2, vI a2), (3, vI a3), (4, vI a4)] ⟨rfl, rfl, rfl, rfl, rfl, trivial⟩ ?_
          exact J_50  _ hw
        · have hw := hw.2 hc9
          exact False.elim (hw.2 0)
    · have hw := hw.2 hc9
      refine aw_sub [] trivial ?_
      exact J_15  _ hw
theorem dX6_append_0 : decode cX6_append 0 = .ok (.iload_n 1, 1) := by decide +kernel
theorem dX6_append_1 : decode cX6_append 1 = .ok (.bipush 33, 2) := by decide +kernel
theorem dX6_append_3 : decode cX6_append 3 = .ok (.if_icmp .lt 9, 3) := by decide +kernel
theorem dX6_append_6 : decode cX6_append 6 = .ok (.iload_n 1, 1) := by decide +kernel
theorem dX6_append_7 : decode cX6_append 7 = .ok (.bipush 126, 2) := by decide +kernel
theorem dX6_append_9 : decode cX6_append 9 = .ok (.if_icmp .le 13, 3) := by decide +kernel
theorem dX6_append_12 : decode cX6_append 12 = .ok (.new 80, 3) := by decide +kernel
theorem dX6_append_15 : decode cX6_append 15 = .ok (.dup, 1) := by decide +kernel
theorem dX6_append_16 : decode cX6_append 16 = .ok (.ldc 146, 2) := by decide +kernel
theorem dX6_append_18 : decode cX6_append 18 = .ok (.invokespecial 84, 3) := by decide +kernel
theorem dX6_append_21 : decode cX6_append 21 = .ok (.athrow, 1) := by decide +kernel
theorem dX6_append_22 : decode cX6_append 22 = .ok (.aload_n 0, 1) := by decide +kernel
theorem dX6_append_23 : decode cX6_append 23 = .ok (.getfield 38, 3) := by decide +kernel
theorem dX6_append_26 : decode cX6_append 26 = .ok (.getfield 98, 3) := by decide +kernel
theorem dX6_append_29 : decode cX6_append 29 = .ok (.bipush 60, 2) := by decide +kernel
theorem dX6_append_31 : decode cX6_append 31 = .ok (.if_icmp .lt 13, 3) := by decide +kernel
theorem dX6_append_34 : decode cX6_append 34 = .ok (.new 123, 3) := by decide +kernel
theorem dX6_append_37 : decode cX6_append 37 = .ok (.dup, 1) := by decide +kernel
theorem dX6_append_38 : decode cX6_append 38 = .ok (.ldc 148, 2) := by decide +kernel
theorem dX6_append_40 : decode cX6_append 40 = .ok (.invokespecial 127, 3) := by decide +kernel
theorem dX6_append_43 : decode cX6_append 43 = .ok (.athrow, 1) := by decide +kernel
theorem dX6_append_44 : decode cX6_append 44 = .ok (.aload_n 0, 1) := by decide +kernel
theorem dX6_append_45 : decode cX6_append 45 = .ok (.getfield 38, 3) := by decide +kernel
theorem dX6_append_48 : decode cX6_append 48 = .ok (.getfield 150, 3) := by decide +kernel
theorem dX6_append_51 : decode cX6_append 51 = .ok (.aload_n 0, 1) := by decide +kernel
theorem dX6_append_52 : decode cX6_append 52 = .ok (.getfield 38, 3) := by decide +kernel
theorem dX6_append_55 : decode cX6_append 55 = .ok (.getfield 98, 3) := by decide +kernel
theorem dX6_append_58 : decode cX6_append 58 = .ok (.iload_n 1, 1) := by decide +kernel
theorem dX6_append_59 : decode cX6_append 59 = .ok (.iastore, 1) := by decide +kernel
theorem dX6_append_60 : decode cX6_append 60 = .ok (.aload_n 0, 1) := by decide +kernel
theorem dX6_append_61 : decode cX6_append 61 = .ok (.getfield 38, 3) := by decide +kernel
theorem dX6_append_64 : decode cX6_append 64 = .ok (.dup, 1) := by decide +kernel
theorem dX6_append_65 : decode cX6_append 65 = .ok (.getfield 98, 3) := by decide +kernel
theorem dX6_append_68 : decode cX6_append 68 = .ok (.iconst 1, 1) := by decide +kernel
theorem dX6_append_69 : decode cX6_append 69 = .ok (.iadd, 1) := by decide +kernel
theorem dX6_append_70 : decode cX6_append 70 = .ok (.putfield 98, 3) := by decide +kernel
theorem dX6_append_73 : decode cX6_append 73 = .ok (.aload_n 0, 1) := by decide +kernel
theorem dX6_append_74 : decode cX6_append 74 = .ok (.getfield 38, 3) := by decide +kernel
theorem dX6_append_77 : decode cX6_append 77 = .ok (.getfield 98, 3) := by decide +kernel
theorem dX6_append_80 : decode cX6_append 80 = .ok (.ireturn, 1) := by decide +kernel
theorem pd_X6_append : (parseMethodDescriptor yX6_append.desc).map (fun d => d.parameters.length) = some 1 := by decide +kernel
def w_X6_append (zz : Nat → Nat) (a0 : Nat) (a1 : Int) (h : AH) (Q : Int → AH → Prop) (X : String → AH → Prop) : Prop := jn (fun  (h_12 : AH) => hn h ≤ hn h_12 ∧ ∀ k : Nat, X "java/lang/IllegalArgumentException" (nGb h_12 k)) (fun k_12 : AH → Prop => ((a1 < (33 : Int)) → k_12  h) ∧ ((¬ (a1 < (33 : Int))) → ((a1 ≤ (126 : Int)) → okA h a0 6 ∧ ∃ b23 : Nat, hfR h a0 5 = some b23 ∧ okA h b23 0 ∧ (((hfI h b23 2) < (60 : Int)) → okA h a0 6 ∧ ∃ b45 : Nat, hfR h a0 5 = some b45 ∧ okA h b45 0 ∧ ∃ b48 : Nat, hfR h b45 0 = some b48 ∧ okA h a0 6 ∧ ∃ b52 : Nat, hfR h a0 5 = some b52 ∧ okA h b52 0 ∧ okW h b48 (hfI h b52 2) ∧ ∀ h59 : AH, h59 = saI h b48 (u1 (haI h b48) (hfI h b52 2) a1) → okA h59 a0 6 ∧ ∃ b61 : Nat, hfR h59 a0 5 = some b61 ∧ okA h59 b61 0 ∧ inR ((hfI h59 b61 2) + (1 : Int)) ∧ okP h59 b61 0 ∧ ∀ h70 : AH, h70 = sfI h59 b61 2 ((hfI h59 b61 2) + (1 : Int)) → okA h70 a0 6 ∧ ∃ b74 : Nat, hfR h70 a0 5 = some b74 ∧ okA h70 b74 0 ∧ Q (hfI h70 b74 2) h70) ∧ ((¬ ((hfI h b23 2) < (60 : Int))) → hn h ≤ hn h ∧ ∀ k : Nat, X "java/lang/IllegalStateException" (nGb h k))) ∧ ((¬ (a1 ≤ (126 : Int))) → k_12  h)))
set_option maxRecDepth 100000 in
set_option maxHeartbeats 4000000 in
theorem met_X6_append (G : GG) (l : Launch) : ∀ (As : List Value) (a0 : Nat) (a1 : Int) (h : AH) (Q : Int → AH → Prop), As.map ab = List.map some ([vR a0, vI a1] : List AV) → w_X6_append G.2.2 a0 a1 h Q (fun _ _ => False) → Met l yX6_append (.code yX6_append cX6_append 2 (some .int) :: xTb) ({ frames := 0, cells := 0, slots := 0, locals := 0 } : Room) (PcA G As h) (QG G (oI Q)) 0 0 (frA G) := by
  intro As a0 a1 h Q hA hw
  refine met_of hA (by decide) (Nat.le_of_ble_eq_true rfl) (fun p e s m args below meth c C hml hr hnm => ?_)
  unfold w_X6_append at hw
  refine aw_iload_n (pc := 0) C dX6_append_0 rfl rfl ?_
  refine aw_bipush (pc := 1) C dX6_append_1 (i := (33 : Int)) (by decide) ?_
  obtain ⟨k_12, hk_12, hw⟩ := jn_out hw
  have J_12 : ∀  (h_12 : AH), k_12  h_12 → AW G p l e ({ frames := 0, cells := 0, slots := 0, locals := 0 } : Room) s m args below meth c 0 0 (MQ below (QG G (oI Q)) args s 0 0 (frA G)) 12 (eOf []) [] h_12 := by
    intro  h_12 hw
    rw [hk_12] at hw
    exact False.elim (hw.2 0)
  refine aw_icmp_lt (pc := 3) (tgt := 12) C dX6_append_3 (by decide) (fun hc9 => ?_) (fun hc9 => ?_)
  · have hw := hw.1 hc9
    refine aw_sub [] trivial ?_
    exact J_12  _ hw
  · have hw := hw.2 hc9
    refine aw_iload_n (pc := 6) C dX6_append_6 rfl rfl ?_
    refine aw_bipush (pc := 7) C dX6_append_7 (i := (126 : Int)) (by decide) ?_
    refine aw_icmp_le (pc := 9) (tgt := 22) C dX6_append_9 (by decide) (fun hc9 => ?_) (fun hc9 => ?_)
    · have hw := hw.1 hc9
      refine aw_aload_n (pc := 22) C dX6_append_22 rfl rfl ?_
      obtain ⟨hp9, b23, hb9, hw⟩ := hw
      refine aw_getR (pc := 23) C (ci := 6) (k := 5) ci6 (by decide) tw223 dX6_append_23 rfl hp9 hb9 ?_
      obtain ⟨hp9, hw⟩ := hw
      refine aw_getI (pc := 26) C (ci := 0) (k := 2) ci0 (by decide) tw210 dX6_append_26 rfl hp9 ?_
      refine aw_bipush (pc := 29) C dX6_append_29 (i := (60 : Int)) (by decide) ?_
      refine aw_icmp_lt (pc := 31) (tgt := 44) C dX6_append_31 (by decide) (fun hc9 => ?_) (fun hc9 => ?_)
      · have hw := hw.1 hc9
        refine aw_aload_n (pc := 44) C dX6_append_44 rfl rfl ?_
        obtain ⟨hp9, b45, hb9, hw⟩ := hw
        refine aw_getR (pc := 45) C (ci := 6) (k := 5) ci6 (by decide) tw223 dX6_append_45 rfl hp9 hb9 ?_
        obtain ⟨hp9, b48, hb9, hw⟩ := hw
        refine aw_getR (pc := 48) C (ci := 0) (k := 0) ci0 (by decide) tw206 dX6_append_48 rfl hp9 hb9 ?_
        refine aw_aload_n (pc := 51) C dX6_append_51 rfl rfl ?_
        obtain ⟨hp9, b52, hb9, hw⟩ := hw
        refine aw_getR (pc := 52) C (ci := 6) (k := 5) ci6 (by decide) tw223 dX6_append_52 rfl hp9 hb9 ?_
        obtain ⟨hp9, hw⟩ := hw
        refine aw_getI (pc := 55) C (ci := 0) (k := 2) ci0 (by decide) tw210 dX6_append_55 rfl hp9 ?_
        refine aw_iload_n (pc := 58) C dX6_append_58 rfl rfl ?_
        obtain ⟨⟨k9, hp9⟩, hw⟩ := hw
        refine aw_iast (pc := 59) C dX6_append_59 hp9 (aw_nmH (fun h59 e9 => ?_))
        have hw := hw h59 e9
        refine aw_aload_n (pc := 60) C dX6_append_60 rfl rfl ?_
        obtain ⟨hp9, b61, hb9, hw⟩ := hw
        refine aw_getR (pc := 61) C (ci := 6) (k := 5) ci6 (by decide) tw223 dX6_append_61 rfl hp9 hb9 ?_
        refine aw_dup (pc := 64) C dX6_append_64 rfl ?_
        obtain ⟨hp9, hw⟩ := hw
        refine aw_getI (pc := 65) C (ci := 0) (k := 2) ci0 (by decide) tw210 dX6_append_65 rfl hp9 ?_
        refine aw_iconst (pc := 68) C dX6_append_68 (i := (1 : Int)) (by decide) ?_
        obtain ⟨hp9, hw⟩ := hw
        refine aw_iadd (pc := 69) C dX6_append_69 hp9 ?_
        obtain ⟨hp9, hw⟩ := hw
        refine aw_putI (pc := 70) C (ci := 0) (k := 2) ci0 (by decide) tw210 (Or.inl rfl) dX6_append_70 rfl hp9 (aw_nmH (fun h70 e9 => ?_))
        have hw := hw h70 e9
        refine aw_aload_n (pc := 73) C dX6_append_73 rfl rfl ?_
        obtain ⟨hp9, b74, hb9, hw⟩ := hw
        refine aw_getR (pc := 74) C (ci := 6) (k := 5) ci6 (by decide) tw223 dX6_append_74 rfl hp9 hb9 ?_
        obtain ⟨hp9, hw⟩ := hw
        refine aw_getI (pc := 77) C (ci := 0) (k := 2) ci0 (by decide) tw210 dX6_append_77 rfl hp9 ?_
        exact aw_iret (pc := 80) C hr dX6_append_80 ⟨Nat.le_of_ble_eq_true rfl, Nat.le_of_ble_eq_true rfl⟩ ⟨_, rfl, hw⟩
      · have hw := hw.2 hc9
        exact False.elim (hw.2 0)
    · have hw := hw.2 hc9
      refine aw_sub [] trivial ?_
      exact J_12  _ hw
theorem dX6_letter_0 : decode cX6_letter 0 = .ok (.iload_n 1, 1) := by decide +kernel
theorem dX6_letter_1 : decode cX6_letter 1 = .ok (.invokestatic 89, 3) := by decide +kernel
theorem dX6_letter_4 : decode cX6_letter 4 = .ok (.ifCond .eq 22, 3) := by decide +kernel
theorem dX6_letter_7 : decode cX6_letter 7 = .ok (.iload_n 2, 1) := by decide +kernel
theorem dX6_letter_8 : decode cX6_letter 8 = .ok (.ifCond .lt 18, 3) := by decide +kernel
theorem dX6_letter_11 : decode cX6_letter 11 = .ok (.iload_n 2, 1) := by decide +kernel
theorem dX6_letter_12 : decode cX6_letter 12 = .ok (.aload_n 0, 1) := by decide +kernel
theorem dX6_letter_13 : decode cX6_letter 13 = .ok (.getfield 12, 3) := by decide +kernel
theorem dX6_letter_16 : decode cX6_letter 16 = .ok (.iload_n 1, 1) := by decide +kernel
theorem dX6_letter_17 : decode cX6_letter 17 = .ok (.invokevirtual 53, 3) := by decide +kernel
theorem dX6_letter_20 : decode cX6_letter 20 = .ok (.getfield 57, 3) := by decide +kernel
theorem dX6_letter_23 : decode cX6_letter 23 = .ok (.if_icmp .lt 13, 3) := by decide +kernel
theorem dX6_letter_26 : decode cX6_letter 26 = .ok (.new 69, 3) := by decide +kernel
theorem dX6_letter_29 : decode cX6_letter 29 = .ok (.dup, 1) := by decide +kernel
theorem dX6_letter_30 : decode cX6_letter 30 = .ok (.ldc 153, 2) := by decide +kernel
theorem dX6_letter_32 : decode cX6_letter 32 = .ok (.invokespecial 73, 3) := by decide +kernel
theorem dX6_letter_35 : decode cX6_letter 35 = .ok (.athrow, 1) := by decide +kernel
theorem dX6_letter_36 : decode cX6_letter 36 = .ok (.iload_n 3, 1) := by decide +kernel
theorem dX6_letter_37 : decode cX6_letter 37 = .ok (.ifCond .lt 9, 3) := by decide +kernel
theorem dX6_letter_40 : decode cX6_letter 40 = .ok (.iload_n 3, 1) := by decide +kernel
theorem dX6_letter_41 : decode cX6_letter 41 = .ok (.bipush 6, 2) := by decide +kernel
theorem dX6_letter_43 : decode cX6_letter 43 = .ok (.if_icmp .lt 13, 3) := by decide +kernel
theorem dX6_letter_46 : decode cX6_letter 46 = .ok (.new 80, 3) := by decide +kernel
theorem dX6_letter_49 : decode cX6_letter 49 = .ok (.dup, 1) := by decide +kernel
theorem dX6_letter_50 : decode cX6_letter 50 = .ok (.ldc 155, 2) := by decide +kernel
theorem dX6_letter_52 : decode cX6_letter 52 = .ok (.invokespecial 84, 3) := by decide +kernel
theorem dX6_letter_55 : decode cX6_letter 55 = .ok (.athrow, 1) := by decide +kernel
theorem dX6_letter_56 : decode cX6_letter 56 = .ok (.aload_n 0, 1) := by decide +kernel
theorem dX6_letter_57 : decode cX6_letter 57 = .ok (.invokevirtual 135, 3) := by decide +kernel
theorem dX6_letter_60 : decode cX6_letter 60 = .ok (.aload_n 0, 1) := by decide +kernel
theorem dX6_letter_61 : decode cX6_letter 61 = .ok (.getfield 21, 3) := by decide +kernel
theorem dX6_letter_64 : decode cX6_letter 64 = .ok (.iload_n 1, 1) := by decide +kernel
theorem dX6_letter_65 : decode cX6_letter 65 = .ok (.iload_n 2, 1) := by decide +kernel
theorem dX6_letter_66 : decode cX6_letter 66 = .ok (.iload_n 3, 1) := by decide +kernel
theorem dX6_letter_67 : decode cX6_letter 67 = .ok (.invokevirtual 157, 3) := by decide +kernel
theorem dX6_letter_70 : decode cX6_letter 70 = .ok (.ireturn, 1) := by decide +kernel
theorem pd_X6_letter : (parseMethodDescriptor yX6_letter.desc).map (fun d => d.parameters.length) = some 3 := by decide +kernel
def w_X6_letter (zz : Nat → Nat) (a0 : Nat) (a1 : Int) (a2 : Int) (a3 : Int) (h : AH) (Q : Int → AH → Prop) (X : String → AH → Prop) : Prop := w_X6_isText zz a1 h (fun (r1 : Int) (h1 : AH) => jn (fun  (h_26 : AH) => hn h ≤ hn h_26 ∧ ∀ k : Nat, X "java/lang/IndexOutOfBoundsException" (nGb h_26 k)) (fun k_26 : AH → Prop => ((r1 = 0) → k_26  h1) ∧ ((¬ (r1 = 0)) → ((a2 < 0) → k_26  h1) ∧ ((¬ (a2 < 0)) → okA h1 a0 6 ∧ ∃ b13 : Nat, hfR h1 a0 0 = some b13 ∧ okA h1 b13 4 ∧ w_X4_text zz b13 a1 h1 (fun (r17 : Nat) (h17 : AH) => okA h17 r17 5 ∧ ((a2 < (hfI h17 r17 2)) → jn (fun  (h_46 : AH) => hn h ≤ hn h_46 ∧ ∀ k : Nat, X "java/lang/IllegalArgumentException" (nGb h_46 k)) (fun k_46 : AH → Prop => ((a3 < 0) → k_46  h17) ∧ ((¬ (a3 < 0)) → ((a3 < (6 : Int)) → okA h17 a0 6 ∧ w_X6_refresh zz a0 h17 (fun  (h57 : AH) => okA h57 a0 6 ∧ ∃ b61 : Nat, hfR h57 a0 1 = some b61 ∧ okA h57 b61 1 ∧ w_X1_letterProperty zz b61 a1 a2 a3 h57 (fun (r67 : Int) (h67 : AH) => Q r67 h67))) ∧ ((¬ (a3 < (6 : Int))) → k_46  h17)))) ∧ ((¬ (a2 < (hfI h17 r17 2))) → k_26  h17))))))
set_option maxRecDepth 100000 in
set_option maxHeartbeats 4000000 in
theorem met_X6_letter (G : GG) (l : Launch) : ∀ (As : List Value) (a0 : Nat) (a1 : Int) (a2 : Int) (a3 : Int) (h : AH) (Q : Int → AH → Prop), As.map ab = List.map some ([vR a0, vI a1, vI a2, vI a3] : List AV) → w_X6_letter G.2.2 a0 a1 a2 a3 h Q (fun _ _ => False) → Met l yX6_letter (.code yX6_letter cX6_letter 4 (some .int) :: xTb) ({ frames := 6, cells := 0, slots := 0, locals := 136 } : Room) (PcA G As h) (QG G (oI Q)) 0 0 (frA G) := by
  intro As a0 a1 a2 a3 h Q hA hw
  refine met_of hA (by decide) (Nat.le_of_ble_eq_true rfl) (fun p e s m args below meth c C hml hr hnm => ?_)
  unfold w_X6_letter at hw
  refine aw_iload_n (pc := 0) C dX6_letter_0 rfl rfl ?_
  refine aw_callS (pc := 1) (as := [vI a1]) C (fun As hA => met_X6_isText G l As a1 _ _ hA hw) tw604 tw605 tw1 tw606 ⟨rfl, rfl⟩ ⟨by decide, by decide, pd_X6_isText⟩ ⟨Nat.le_of_ble_eq_true rfl, Nat.le_of_ble_eq_true rfl⟩ ⟨(Nat.le_of_ble_eq_true rfl), (Nat.le_of_ble_eq_true rfl)⟩ (Nat.le_of_ble_eq_true rfl) dX6_letter_1 rfl (fun v9 h1 hq9 => ?_)
  obtain ⟨r1, rfl, hw⟩ := hq9
  obtain ⟨k_26, hk_26, hw⟩ := jn_out hw
  have J_26 : ∀  (h_26 : AH), k_26  h_26 → AW G p l e ({ frames := 6, cells := 0, slots := 0, locals := 136 } : Room) s m args below meth c 0 0 (MQ below (QG G (oI Q)) args s 0 0 (frA G)) 26 (eOf []) [] h_26 := by
    intro  h_26 hw
    rw [hk_26] at hw
    exact False.elim (hw.2 0)
  refine aw_if_eq (pc := 4) (tgt := 26) C dX6_letter_4 (by decide) (fun hc9 => ?_) (fun hc9 => ?_)
  · have hw := hw.1 hc9
    refine aw_sub [] trivial ?_
    exact J_26  _ hw
  · have hw := hw.2 hc9
    refine aw_iload_n (pc := 7) C dX6_letter_7 rfl rfl ?_
    refine aw_if_lt (pc := 8) (tgt := 26) C dX6_letter_8 (by decide) (fun hc9 => ?_) (fun hc9 => ?_)
    · have hw := hw.1 hc9
      refine aw_sub [] trivial ?_
      exact J_26  _ hw
    · have hw := hw.2 hc9
      refine aw_iload_n (pc := 11) C dX6_letter_11 rfl rfl ?_
      refine aw_aload_n (pc := 12) C dX6_letter_12 rfl rfl ?_
      obtain ⟨hp9, b13, hb9, hw⟩ := hw
      refine aw_getR (pc := 13) C (ci := 6) (k := 0) ci6 (by decide) tw218 dX6_letter_13 rfl hp9 hb9 ?_
      refine aw_iload_n (pc := 16) C dX6_letter_16 rfl rfl ?_
      obtain ⟨hp9, hw⟩ := hw
      refine aw_callV (pc := 17) (as := [vI a1]) C ci4 (fun As hA => met_X4_text G l As b13 a1 _ _ hA hw) tw552 tw333 tw334 tw2 tw335 ⟨rfl, rfl⟩ ⟨rfl, by decide, by decide, pd_X4_text⟩ ⟨Nat.le_of_ble_eq_true rfl, Nat.le_of_ble_eq_true rfl⟩ ⟨(Nat.le_of_ble_eq_true rfl), (Nat.le_of_ble_eq_true rfl)⟩ (Nat.le_of_ble_eq_true rfl) dX6_letter_17 rfl hp9 (fun v9 h17 hq9 => ?_)
      obtain ⟨r17, rfl, hw⟩ := hq9
      obtain ⟨hp9, hw⟩ := hw
      refine aw_getI (pc := 20) C (ci := 5) (k := 2) ci5 (by decide) tw49 dX6_letter_20 rfl hp9 ?_
      refine aw_icmp_lt (pc := 23) (tgt := 36) C dX6_letter_23 (by decide) (fun hc9 => ?_) (fun hc9 => ?_)
      · have hw := hw.1 hc9
        refine aw_iload_n (pc := 36) C dX6_letter_36 rfl rfl ?_
        obtain ⟨k_46, hk_46, hw⟩ := jn_out hw
        have J_46 : ∀  (h_46 : AH), k_46  h_46 → AW G p l e ({ frames := 6, cells := 0, slots := 0, locals := 136 } : Room) s m args below meth c 0 0 (MQ below (QG G (oI Q)) args s 0 0 (frA G)) 46 (eOf []) [] h_46 := by
          intro  h_46 hw
          rw [hk_46] at hw
          exact False.elim (hw.2 0)
        refine aw_if_lt (pc := 37) (tgt := 46) C dX6_letter_37 (by decide) (fun hc9 => ?_) (fun hc9 => ?_)
        · have hw := hw.1 hc9
          refine aw_sub [] trivial ?_
          exact J_46  _ hw
        · have hw := hw.2 hc9
          refine aw_iload_n (pc := 40) C dX6_letter_40 rfl rfl ?_
          refine aw_bipush (pc := 41) C dX6_letter_41 (i := (6 : Int)) (by decide) ?_
          refine aw_icmp_lt (pc := 43) (tgt := 56) C dX6_letter_43 (by decide) (fun hc9 => ?_) (fun hc9 => ?_)
          · have hw := hw.1 hc9
            refine aw_aload_n (pc := 56) C dX6_letter_56 rfl rfl ?_
            obtain ⟨hp9, hw⟩ := hw
            refine aw_callV (pc := 57) (as := []) C ci6 (fun As hA => met_X6_refresh G l As a0 _ _ hA hw) tw315 tw317 (tbp 1 (n := 8) (by decide +kernel)) tw1 tw318 ⟨rfl, rfl⟩ ⟨rfl, by decide, by decide, pd_X6_refresh⟩ ⟨Nat.le_of_ble_eq_true rfl, Nat.le_of_ble_eq_true rfl⟩ ⟨(Nat.le_of_ble_eq_true rfl), (Nat.le_of_ble_eq_true rfl)⟩ (Nat.le_of_ble_eq_true rfl) dX6_letter_57 rfl hp9 (fun v9 h57 hq9 => ?_)
            obtain ⟨rfl, hw⟩ := hq9
            refine aw_aload_n (pc := 60) C dX6_letter_60 rfl rfl ?_
            obtain ⟨hp9, b61, hb9, hw⟩ := hw
            refine aw_getR (pc := 61) C (ci := 6) (k := 1) ci6 (by decide) tw219 dX6_letter_61 rfl hp9 hb9 ?_
            refine aw_iload_n (pc := 64) C dX6_letter_64 rfl rfl ?_
            refine aw_iload_n (pc := 65) C dX6_letter_65 rfl rfl ?_
            refine aw_iload_n (pc := 66) C dX6_letter_66 rfl rfl ?_
            obtain ⟨hp9, hw⟩ := hw
            refine aw_callV (pc := 67) (as := [vI a1, vI a2, vI a3]) C ci1 (fun As hA => met_X1_letterProperty G l As b61 a1 a2 a3 _ _ hA hw) tw608 tw609 tw610 tw6 tw611 ⟨rfl, rfl⟩ ⟨rfl, by decide, by decide, pd_X1_letterProperty⟩ ⟨Nat.le_of_ble_eq_true rfl, Nat.le_of_ble_eq_true rfl⟩ ⟨(Nat.le_of_ble_eq_true rfl), (Nat.le_of_ble_eq_true rfl)⟩ (Nat.le_of_ble_eq_true rfl) dX6_letter_67 rfl hp9 (fun v9 h67 hq9 => ?_)
            obtain ⟨r67, rfl, hw⟩ := hq9
            exact aw_iret (pc := 70) C hr dX6_letter_70 ⟨Nat.le_of_ble_eq_true rfl, Nat.le_of_ble_eq_true rfl⟩ ⟨_, rfl, hw⟩
          · have hw := hw.2 hc9
            refine aw_sub [] trivial ?_
            exact J_46  _ hw
      · have hw := hw.2 hc9
        refine aw_sub [] trivial ?_
        exact J_26  _ hw
theorem dX6_way_0 : decode cX6_way 0 = .ok (.aload_n 0, 1) := by decide +kernel
theorem dX6_way_1 : decode cX6_way 1 = .ok (.iload_n 1, 1) := by decide +kernel
theorem dX6_way_2 : decode cX6_way 2 = .ok (.invokevirtual 161, 3) := by decide +kernel
theorem dX6_way_5 : decode cX6_way 5 = .ok (.ifCond .ne 13, 3) := by decide +kernel
theorem dX6_way_8 : decode cX6_way 8 = .ok (.new 69, 3) := by decide +kernel
theorem dX6_way_11 : decode cX6_way 11 = .ok (.dup, 1) := by decide +kernel
theorem dX6_way_12 : decode cX6_way 12 = .ok (.ldc 164, 2) := by decide +kernel
theorem dX6_way_14 : decode cX6_way 14 = .ok (.invokespecial 73, 3) := by decide +kernel
theorem dX6_way_17 : decode cX6_way 17 = .ok (.athrow, 1) := by decide +kernel
theorem dX6_way_18 : decode cX6_way 18 = .ok (.iload_n 2, 1) := by decide +kernel
theorem dX6_way_19 : decode cX6_way 19 = .ok (.ifCond .lt 8, 3) := by decide +kernel
theorem dX6_way_22 : decode cX6_way 22 = .ok (.iload_n 2, 1) := by decide +kernel
theorem dX6_way_23 : decode cX6_way 23 = .ok (.iconst 3, 1) := by decide +kernel
theorem dX6_way_24 : decode cX6_way 24 = .ok (.if_icmp .lt 13, 3) := by decide +kernel
theorem dX6_way_27 : decode cX6_way 27 = .ok (.new 80, 3) := by decide +kernel
theorem dX6_way_30 : decode cX6_way 30 = .ok (.dup, 1) := by decide +kernel
theorem dX6_way_31 : decode cX6_way 31 = .ok (.ldc 155, 2) := by decide +kernel
theorem dX6_way_33 : decode cX6_way 33 = .ok (.invokespecial 84, 3) := by decide +kernel
theorem dX6_way_36 : decode cX6_way 36 = .ok (.athrow, 1) := by decide +kernel
theorem dX6_way_37 : decode cX6_way 37 = .ok (.aload_n 0, 1) := by decide +kernel
theorem dX6_way_38 : decode cX6_way 38 = .ok (.invokevirtual 135, 3) := by decide +kernel
theorem dX6_way_41 : decode cX6_way 41 = .ok (.aload_n 0, 1) := by decide +kernel
theorem dX6_way_42 : decode cX6_way 42 = .ok (.getfield 21, 3) := by decide +kernel
theorem dX6_way_45 : decode cX6_way 45 = .ok (.iload_n 1, 1) := by decide +kernel
theorem dX6_way_46 : decode cX6_way 46 = .ok (.iload_n 2, 1) := by decide +kernel
theorem dX6_way_47 : decode cX6_way 47 = .ok (.invokevirtual 166, 3) := by decide +kernel
theorem dX6_way_50 : decode cX6_way 50 = .ok (.ireturn, 1) := by decide +kernel
theorem pd_X6_way : (parseMethodDescriptor yX6_way.desc).map (fun d => d.parameters.length) = some 2 := by decide +kernel
def w_X6_way (zz : Nat → Nat) (a0 : Nat) (a1 : Int) (a2 : Int) (h : AH) (Q : Int → AH → Prop) (X : String → AH → Prop) : Prop := okA h a0 6 ∧ w_X6_isPiece zz a0 a1 h (fun (r2 : Int) (h2 : AH) => ((¬ r2 = 0) → jn (fun  (h_27 : AH) => hn h ≤ hn h_27 ∧ ∀ k : Nat, X "java/lang/IllegalArgumentException" (nGb h_27 k)) (fun k_27 : AH → Prop => ((a2 < 0) → k_27  h2) ∧ ((¬ (a2 < 0)) → ((a2 < (3 : Int)) → okA h2 a0 6 ∧ w_X6_refresh zz a0 h2 (fun  (h38 : AH) => okA h38 a0 6 ∧ ∃ b42 : Nat, hfR h38 a0 1 = some b42 ∧ okA h38 b42 1 ∧ w_X1_wayProperty zz b42 a1 a2 h38 (fun (r47 : Int) (h47 : AH) => Q r47 h47))) ∧ ((¬ (a2 < (3 : Int))) → k_27  h2)))) ∧ ((r2 = 0) → hn h ≤ hn h2 ∧ ∀ k : Nat, X "java/lang/IndexOutOfBoundsException" (nGb h2 k)))
set_option maxRecDepth 100000 in
set_option maxHeartbeats 4000000 in
theorem met_X6_way (G : GG) (l : Launch) : ∀ (As : List Value) (a0 : Nat) (a1 : Int) (a2 : Int) (h : AH) (Q : Int → AH → Prop), As.map ab = List.map some ([vR a0, vI a1, vI a2] : List AV) → w_X6_way G.2.2 a0 a1 a2 h Q (fun _ _ => False) → Met l yX6_way (.code yX6_way cX6_way 3 (some .int) :: xTb) ({ frames := 6, cells := 0, slots := 0, locals := 136 } : Room) (PcA G As h) (QG G (oI Q)) 0 0 (frA G) := by
  intro As a0 a1 a2 h Q hA hw
  refine met_of hA (by decide) (Nat.le_of_ble_eq_true rfl) (fun p e s m args below meth c C hml hr hnm => ?_)
  unfold w_X6_way at hw
  refine aw_aload_n (pc := 0) C dX6_way_0 rfl rfl ?_
  refine aw_iload_n (pc := 1) C dX6_way_1 rfl rfl ?_
  obtain ⟨hp9, hw⟩ := hw
  refine aw_callV (pc := 2) (as := [vI a1]) C ci6 (fun As hA => met_X6_isPiece G l As a0 a1 _ _ hA hw) tw548 tw550 (tbp 24 (n := 8) (by decide +kernel)) tw1 tw551 ⟨rfl, rfl⟩ ⟨rfl, by decide, by decide, pd_X6_isPiece⟩ ⟨Nat.le_of_ble_eq_true rfl, Nat.le_of_ble_eq_true rfl⟩ ⟨(Nat.le_of_ble_eq_true rfl), (Nat.le_of_ble_eq_true rfl)⟩ (Nat.le_of_ble_eq_true rfl) dX6_way_2 rfl hp9 (fun v9 h2 hq9 => ?_)
  obtain ⟨r2, rfl, hw⟩ := hq9
  refine aw_if_ne (pc := 5) (tgt := 18) C dX6_way_5 (by decide) (fun hc9 => ?_) (fun hc9 => ?_)
  · have hw := hw.1 hc9
    refine aw_iload_n (pc := 18) C dX6_way_18 rfl rfl ?_
    obtain ⟨k_27, hk_27, hw⟩ := jn_out hw
    have J_27 : ∀  (h_27 : AH), k_27  h_27 → AW G p l e ({ frames := 6, cells := 0, slots := 0, locals := 136 } : Room) s m args below meth c 0 0 (MQ below (QG G (oI Q)) args s 0 0 (frA G)) 27 (eOf []) [] h_27 := by
      intro  h_27 hw
      rw [hk_27] at hw
      exact False.elim (hw.2 0)
    refine aw_if_lt (pc := 19) (tgt := 27) C dX6_way_19 (by decide) (fun hc9 => ?_) (fun hc9 => ?_)
    · have hw := hw.1 hc9
      refine aw_sub [] trivial ?_
      exact J_27  _ hw
    · have hw := hw.2 hc9
      refine aw_iload_n (pc := 22) C dX6_way_22 rfl rfl ?_
      refine aw_iconst (pc := 23) C dX6_way_23 (i := (3 : Int)) (by decide) ?_
      refine aw_icmp_lt (pc := 24) (tgt := 37) C dX6_way_24 (by decide) (fun hc9 => ?_) (fun hc9 => ?_)
      · have hw := hw.1 hc9
        refine aw_aload_n (pc := 37) C dX6_way_37 rfl rfl ?_
        obtain ⟨hp9, hw⟩ := hw
        refine aw_callV (pc := 38) (as := []) C ci6 (fun As hA => met_X6_refresh G l As a0 _ _ hA hw) tw315 tw317 (tbp 1 (n := 8) (by decide +kernel)) tw1 tw318 ⟨rfl, rfl⟩ ⟨rfl, by decide, by decide, pd_X6_refresh⟩ ⟨Nat.le_of_ble_eq_true rfl, Nat.le_of_ble_eq_true rfl⟩ ⟨(Nat.le_of_ble_eq_true rfl), (Nat.le_of_ble_eq_true rfl)⟩ (Nat.le_of_ble_eq_true rfl) dX6_way_38 rfl hp9 (fun v9 h38 hq9 => ?_)
        obtain ⟨rfl, hw⟩ := hq9
        refine aw_aload_n (pc := 41) C dX6_way_41 rfl rfl ?_
        obtain ⟨hp9, b42, hb9, hw⟩ := hw
        refine aw_getR (pc := 42) C (ci := 6) (k := 1) ci6 (by decide) tw219 dX6_way_42 rfl hp9 hb9 ?_
        refine aw_iload_n (pc := 45) C dX6_way_45 rfl rfl ?_
        refine aw_iload_n (pc := 46) C dX6_way_46 rfl rfl ?_
        obtain ⟨hp9, hw⟩ := hw
        refine aw_callV (pc := 47) (as := [vI a1, vI a2]) C ci1 (fun As hA => met_X1_wayProperty G l As b42 a1 a2 _ _ hA hw) tw617 tw618 tw619 tw6 tw620 ⟨rfl, rfl⟩ ⟨rfl, by decide, by decide, pd_X1_wayProperty⟩ ⟨Nat.le_of_ble_eq_true rfl, Nat.le_of_ble_eq_true rfl⟩ ⟨(Nat.le_of_ble_eq_true rfl), (Nat.le_of_ble_eq_true rfl)⟩ (Nat.le_of_ble_eq_true rfl) dX6_way_47 rfl hp9 (fun v9 h47 hq9 => ?_)
        obtain ⟨r47, rfl, hw⟩ := hq9
        exact aw_iret (pc := 50) C hr dX6_way_50 ⟨Nat.le_of_ble_eq_true rfl, Nat.le_of_ble_eq_true rfl⟩ ⟨_, rfl, hw⟩
      · have hw := hw.2 hc9
        refine aw_sub [] trivial ?_
        exact J_27  _ hw
  · have hw := hw.2 hc9
    exact False.elim (hw.2 0)
theorem dX6_at_0 : decode cX6_at 0 = .ok (.aload_n 0, 1) := by decide +kernel
theorem dX6_at_1 : decode cX6_at 1 = .ok (.invokevirtual 135, 3) := by decide +kernel
theorem dX6_at_4 : decode cX6_at 4 = .ok (.aload_n 0, 1) := by decide +kernel
theorem dX6_at_5 : decode cX6_at 5 = .ok (.iload_n 1, 1) := by decide +kernel
theorem dX6_at_6 : decode cX6_at 6 = .ok (.invokevirtual 170, 3) := by decide +kernel
theorem dX6_at_9 : decode cX6_at 9 = .ok (.ifCond .eq 11, 3) := by decide +kernel
theorem dX6_at_12 : decode cX6_at 12 = .ok (.iload_n 2, 1) := by decide +kernel
theorem dX6_at_13 : decode cX6_at 13 = .ok (.iload_n 3, 1) := by decide +kernel
theorem dX6_at_14 : decode cX6_at 14 = .ok (.invokestatic 110, 3) := by decide +kernel
theorem dX6_at_17 : decode cX6_at 17 = .ok (.ifCond .ne 13, 3) := by decide +kernel
theorem dX6_at_20 : decode cX6_at 20 = .ok (.new 69, 3) := by decide +kernel
theorem dX6_at_23 : decode cX6_at 23 = .ok (.dup, 1) := by decide +kernel
theorem dX6_at_24 : decode cX6_at 24 = .ok (.ldc 173, 2) := by decide +kernel
theorem dX6_at_26 : decode cX6_at 26 = .ok (.invokespecial 73, 3) := by decide +kernel
theorem dX6_at_29 : decode cX6_at 29 = .ok (.athrow, 1) := by decide +kernel
theorem dX6_at_30 : decode cX6_at 30 = .ok (.aload_n 0, 1) := by decide +kernel
theorem dX6_at_31 : decode cX6_at 31 = .ok (.getfield 21, 3) := by decide +kernel
theorem dX6_at_34 : decode cX6_at 34 = .ok (.iload_n 1, 1) := by decide +kernel
theorem dX6_at_35 : decode cX6_at 35 = .ok (.bipush 16, 2) := by decide +kernel
theorem dX6_at_37 : decode cX6_at 37 = .ok (.iload_n 2, 1) := by decide +kernel
theorem dX6_at_38 : decode cX6_at 38 = .ok (.imul, 1) := by decide +kernel
theorem dX6_at_39 : decode cX6_at 39 = .ok (.iload_n 3, 1) := by decide +kernel
theorem dX6_at_40 : decode cX6_at 40 = .ok (.iadd, 1) := by decide +kernel
theorem dX6_at_41 : decode cX6_at 41 = .ok (.invokevirtual 175, 3) := by decide +kernel
theorem dX6_at_44 : decode cX6_at 44 = .ok (.ireturn, 1) := by decide +kernel
theorem pd_X6_at : (parseMethodDescriptor yX6_at.desc).map (fun d => d.parameters.length) = some 3 := by decide +kernel
def w_X6_at (zz : Nat → Nat) (a0 : Nat) (a1 : Int) (a2 : Int) (a3 : Int) (h : AH) (Q : Int → AH → Prop) (X : String → AH → Prop) : Prop := okA h a0 6 ∧ w_X6_refresh zz a0 h (fun  (h1 : AH) => okA h1 a0 6 ∧ w_X6_isFrame zz a0 a1 h1 (fun (r6 : Int) (h6 : AH) => jn (fun  (h_20 : AH) => hn h ≤ hn h_20 ∧ ∀ k : Nat, X "java/lang/IndexOutOfBoundsException" (nGb h_20 k)) (fun k_20 : AH → Prop => ((r6 = 0) → k_20  h6) ∧ ((¬ (r6 = 0)) → w_X6_isCell zz a2 a3 h6 (fun (r14 : Int) (h14 : AH) => ((¬ r14 = 0) → okA h14 a0 6 ∧ ∃ b31 : Nat, hfR h14 a0 1 = some b31 ∧ inR ((16 : Int) * a2) ∧ inR (((16 : Int) * a2) + a3) ∧ okA h14 b31 1 ∧ w_X1_codeShown zz b31 a1 (((16 : Int) * a2) + a3) h14 (fun (r41 : Int) (h41 : AH) => Q r41 h41)) ∧ ((r14 = 0) → k_20  h14))))))
set_option maxRecDepth 100000 in
set_option maxHeartbeats 4000000 in
theorem met_X6_at (G : GG) (l : Launch) : ∀ (As : List Value) (a0 : Nat) (a1 : Int) (a2 : Int) (a3 : Int) (h : AH) (Q : Int → AH → Prop), As.map ab = List.map some ([vR a0, vI a1, vI a2, vI a3] : List AV) → w_X6_at G.2.2 a0 a1 a2 a3 h Q (fun _ _ => False) → Met l yX6_at (.code yX6_at cX6_at 4 (some .int) :: xTb) ({ frames := 6, cells := 0, slots := 0, locals := 136 } : Room) (PcA G As h) (QG G (oI Q)) 0 0 (frA G) := by
  intro As a0 a1 a2 a3 h Q hA hw
  refine met_of hA (by decide) (Nat.le_of_ble_eq_true rfl) (fun p e s m args below meth c C hml hr hnm => ?_)
  unfold w_X6_at at hw
  refine aw_aload_n (pc := 0) C dX6_at_0 rfl rfl ?_
  obtain ⟨hp9, hw⟩ := hw
  refine aw_callV (pc := 1) (as := []) C ci6 (fun As hA => met_X6_refresh G l As a0 _ _ hA hw) tw315 tw317 (tbp 1 (n := 8) (by decide +kernel)) tw1 tw318 ⟨rfl, rfl⟩ ⟨rfl, by decide, by decide, pd_X6_refresh⟩ ⟨Nat.le_of_ble_eq_true rfl, Nat.le_of_ble_eq_true rfl⟩ ⟨(Nat.le_of_ble_eq_true rfl), (Nat.le_of_ble_eq_true rfl)⟩ (Nat.le_of_ble_eq_true rfl) dX6_at_1 rfl hp9 (fun v9 h1 hq9 => ?_)
  obtain ⟨rfl, hw⟩ := hq9
  refine aw_aload_n (pc := 4) C dX6_at_4 rfl rfl ?_
  refine aw_iload_n (pc := 5) C dX6_at_5 rfl rfl ?_
  obtain ⟨hp9, hw⟩ := hw
  refine aw_callV (pc := 6) (as := [vI a1]) C ci6 (fun As hA => met_X6_isFrame G l As a0 a1 _ _ hA hw) tw481 tw483 (tbp 19 (n := 8) (by decide +kernel)) tw1 tw484 ⟨rfl, rfl⟩ ⟨rfl, by decide, by decide, pd_X6_isFrame⟩ ⟨Nat.le_of_ble_eq_true rfl, Nat.le_of_ble_eq_true rfl⟩ ⟨(Nat.le_of_ble_eq_true rfl), (Nat.le_of_ble_eq_true rfl)⟩ (Nat.le_of_ble_eq_true rfl) dX6_at_6 rfl hp9 (fun v9 h6 hq9 => ?_)
  obtain ⟨r6, rfl, hw⟩ := hq9
  obtain ⟨k_20, hk_20, hw⟩ := jn_out hw
  have J_20 : ∀  (h_20 : AH), k_20  h_20 → AW G p l e ({ frames := 6, cells := 0, slots := 0, locals := 136 } : Room) s m args below meth c 0 0 (MQ below (QG G (oI Q)) args s 0 0 (frA G)) 20 (eOf []) [] h_20 := by
    intro  h_20 hw
    rw [hk_20] at hw
    exact False.elim (hw.2 0)
  refine aw_if_eq (pc := 9) (tgt := 20) C dX6_at_9 (by decide) (fun hc9 => ?_) (fun hc9 => ?_)
  · have hw := hw.1 hc9
    refine aw_sub [] trivial ?_
    exact J_20  _ hw
  · have hw := hw.2 hc9
    refine aw_iload_n (pc := 12) C dX6_at_12 rfl rfl ?_
    refine aw_iload_n (pc := 13) C dX6_at_13 rfl rfl ?_
    refine aw_callS (pc := 14) (as := [vI a2, vI a3]) C (fun As hA => met_X6_isCell G l As a2 a3 _ _ hA hw) tw486 tw487 tw1 tw488 ⟨rfl, rfl⟩ ⟨by decide, by decide, pd_X6_isCell⟩ ⟨Nat.le_of_ble_eq_true rfl, Nat.le_of_ble_eq_true rfl⟩ ⟨(Nat.le_of_ble_eq_true rfl), (Nat.le_of_ble_eq_true rfl)⟩ (Nat.le_of_ble_eq_true rfl) dX6_at_14 rfl (fun v9 h14 hq9 => ?_)
    obtain ⟨r14, rfl, hw⟩ := hq9
    refine aw_if_ne (pc := 17) (tgt := 30) C dX6_at_17 (by decide) (fun hc9 => ?_) (fun hc9 => ?_)
    · have hw := hw.1 hc9
      refine aw_aload_n (pc := 30) C dX6_at_30 rfl rfl ?_
      obtain ⟨hp9, b31, hb9, hw⟩ := hw
      refine aw_getR (pc := 31) C (ci := 6) (k := 1) ci6 (by decide) tw219 dX6_at_31 rfl hp9 hb9 ?_
      refine aw_iload_n (pc := 34) C dX6_at_34 rfl rfl ?_
      refine aw_bipush (pc := 35) C dX6_at_35 (i := (16 : Int)) (by decide) ?_
      refine aw_iload_n (pc := 37) C dX6_at_37 rfl rfl ?_
      obtain ⟨hp9, hw⟩ := hw
      refine aw_imul (pc := 38) C dX6_at_38 hp9 ?_
      refine aw_iload_n (pc := 39) C dX6_at_39 rfl rfl ?_
      obtain ⟨hp9, hw⟩ := hw
      refine aw_iadd (pc := 40) C dX6_at_40 hp9 ?_
      obtain ⟨hp9, hw⟩ := hw
      refine aw_callV (pc := 41) (as := [vI a1, vI (((16 : Int) * a2) + a3)]) C ci1 (fun As hA => met_X1_codeShown G l As b31 a1 (((16 : Int) * a2) + a3) _ _ hA hw) tw505 tw506 tw507 tw6 tw508 ⟨rfl, rfl⟩ ⟨rfl, by decide, by decide, pd_X1_codeShown⟩ ⟨Nat.le_of_ble_eq_true rfl, Nat.le_of_ble_eq_true rfl⟩ ⟨(Nat.le_of_ble_eq_true rfl), (Nat.le_of_ble_eq_true rfl)⟩ (Nat.le_of_ble_eq_true rfl) dX6_at_41 rfl hp9 (fun v9 h41 hq9 => ?_)
      obtain ⟨r41, rfl, hw⟩ := hq9
      exact aw_iret (pc := 44) C hr dX6_at_44 ⟨Nat.le_of_ble_eq_true rfl, Nat.le_of_ble_eq_true rfl⟩ ⟨_, rfl, hw⟩
    · have hw := hw.2 hc9
      refine aw_sub [] trivial ?_
      exact J_20  _ hw
theorem dX6_place_0 : decode cX6_place 0 = .ok (.aload_n 0, 1) := by decide +kernel
theorem dX6_place_1 : decode cX6_place 1 = .ok (.invokevirtual 135, 3) := by decide +kernel
theorem dX6_place_4 : decode cX6_place 4 = .ok (.aload_n 0, 1) := by decide +kernel
theorem dX6_place_5 : decode cX6_place 5 = .ok (.iload_n 1, 1) := by decide +kernel
theorem dX6_place_6 : decode cX6_place 6 = .ok (.invokevirtual 170, 3) := by decide +kernel
theorem dX6_place_9 : decode cX6_place 9 = .ok (.ifCond .eq 11, 3) := by decide +kernel
theorem dX6_place_12 : decode cX6_place 12 = .ok (.aload_n 0, 1) := by decide +kernel
theorem dX6_place_13 : decode cX6_place 13 = .ok (.iload_n 2, 1) := by decide +kernel
theorem dX6_place_14 : decode cX6_place 14 = .ok (.invokevirtual 161, 3) := by decide +kernel
theorem dX6_place_17 : decode cX6_place 17 = .ok (.ifCond .ne 13, 3) := by decide +kernel
theorem dX6_place_20 : decode cX6_place 20 = .ok (.new 69, 3) := by decide +kernel
theorem dX6_place_23 : decode cX6_place 23 = .ok (.dup, 1) := by decide +kernel
theorem dX6_place_24 : decode cX6_place 24 = .ok (.ldc 178, 2) := by decide +kernel
theorem dX6_place_26 : decode cX6_place 26 = .ok (.invokespecial 73, 3) := by decide +kernel
theorem dX6_place_29 : decode cX6_place 29 = .ok (.athrow, 1) := by decide +kernel
theorem dX6_place_30 : decode cX6_place 30 = .ok (.aload_n 0, 1) := by decide +kernel
theorem dX6_place_31 : decode cX6_place 31 = .ok (.getfield 21, 3) := by decide +kernel
theorem dX6_place_34 : decode cX6_place 34 = .ok (.iload_n 2, 1) := by decide +kernel
theorem dX6_place_35 : decode cX6_place 35 = .ok (.iload_n 1, 1) := by decide +kernel
theorem dX6_place_36 : decode cX6_place 36 = .ok (.invokevirtual 180, 3) := by decide +kernel
theorem dX6_place_39 : decode cX6_place 39 = .ok (.ireturn, 1) := by decide +kernel
theorem pd_X6_place : (parseMethodDescriptor yX6_place.desc).map (fun d => d.parameters.length) = some 2 := by decide +kernel
def w_X6_place (zz : Nat → Nat) (a0 : Nat) (a1 : Int) (a2 : Int) (h : AH) (Q : Int → AH → Prop) (X : String → AH → Prop) : Prop := okA h a0 6 ∧ w_X6_refresh zz a0 h (fun  (h1 : AH) => okA h1 a0 6 ∧ w_X6_isFrame zz a0 a1 h1 (fun (r6 : Int) (h6 : AH) => jn (fun  (h_20 : AH) => hn h ≤ hn h_20 ∧ ∀ k : Nat, X "java/lang/IndexOutOfBoundsException" (nGb h_20 k)) (fun k_20 : AH → Prop => ((r6 = 0) → k_20  h6) ∧ ((¬ (r6 = 0)) → okA h6 a0 6 ∧ w_X6_isPiece zz a0 a2 h6 (fun (r14 : Int) (h14 : AH) => ((¬ r14 = 0) → okA h14 a0 6 ∧ ∃ b31 : Nat, hfR h14 a0 1 = some b31 ∧ okA h14 b31 1 ∧ w_X1_cellOf zz b31 a2 a1 h14 (fun (r36 : Int) (h36 : AH) => Q r36 h36)) ∧ ((r14 = 0) → k_20  h14))))))
set_option maxRecDepth 100000 in
set_option maxHeartbeats 4000000 in
theorem met_X6_place (G : GG) (l : Launch) : ∀ (As : List Value) (a0 : Nat) (a1 : Int) (a2 : Int) (h : AH) (Q : Int → AH → Prop), As.map ab = List.map some ([vR a0, vI a1, vI a2] : List AV) → w_X6_place G.2.2 a0 a1 a2 h Q (fun _ _ => False) → Met l yX6_place (.code yX6_place cX6_place 3 (some .int) :: xTb) ({ frames := 6, cells := 0, slots := 0, locals := 136 } : Room) (PcA G As h) (QG G (oI Q)) 0 0 (frA G) := by
  intro As a0 a1 a2 h Q hA hw
  refine met_of hA (by decide) (Nat.le_of_ble_eq_true rfl) (fun p e s m args below meth c C hml hr hnm => ?_)
  unfold w_X6_place at hw
  refine aw_aload_n (pc := 0) C dX6_place_0 rfl rfl ?_
  obtain ⟨hp9, hw⟩ := hw
  refine aw_callV (pc := 1) (as := []) C ci6 (fun As hA => met_X6_refresh G l As a0 _ _ hA hw) tw315 tw317 (tbp 1 (n := 8) (by decide +kernel)) tw1 tw318 ⟨rfl, rfl⟩ ⟨rfl, by decide, by decide, pd_X6_refresh⟩ ⟨Nat.le_of_ble_eq_true rfl, Nat.le_of_ble_eq_true rfl⟩ ⟨(Nat.le_of_ble_eq_true rfl), (Nat.le_of_ble_eq_true rfl)⟩ (Nat.le_of_ble_eq_true rfl) dX6_place_1 rfl hp9 (fun v9 h1 hq9 => ?_)
  obtain ⟨rfl, hw⟩ := hq9
  refine aw_aload_n (pc := 4) C dX6_place_4 rfl rfl ?_
  refine aw_iload_n (pc := 5) C dX6_place_5 rfl rfl ?_
  obtain ⟨hp9, hw⟩ := hw
  refine aw_callV (pc := 6) (as := [vI a1]) C ci6 (fun As hA => met_X6_isFrame G l As a0 a1 _ _ hA hw) tw481 tw483 (tbp 19 (n := 8) (by decide +kernel)) tw1 tw484 ⟨rfl, rfl⟩ ⟨rfl, by decide, by decide, pd_X6_isFrame⟩ ⟨Nat.le_of_ble_eq_true rfl, Nat.le_of_ble_eq_true rfl⟩ ⟨(Nat.le_of_ble_eq_true rfl), (Nat.le_of_ble_eq_true rfl)⟩ (Nat.le_of_ble_eq_true rfl) dX6_place_6 rfl hp9 (fun v9 h6 hq9 => ?_)
  obtain ⟨r6, rfl, hw⟩ := hq9
  obtain ⟨k_20, hk_20, hw⟩ := jn_out hw
  have J_20 : ∀  (h_20 : AH), k_20  h_20 → AW G p l e ({ frames := 6, cells := 0, slots := 0, locals := 136 } : Room) s m args below meth c 0 0 (MQ below (QG G (oI Q)) args s 0 0 (frA G)) 20 (eOf []) [] h_20 := by
    intro  h_20 hw
    rw [hk_20] at hw
    exact False.elim (hw.2 0)
  refine aw_if_eq (pc := 9) (tgt := 20) C dX6_place_9 (by decide) (fun hc9 => ?_) (fun hc9 => ?_)
  · have hw := hw.1 hc9
    refine aw_sub [] trivial ?_
    exact J_20  _ hw
  · have hw := hw.2 hc9
    refine aw_aload_n (pc := 12) C dX6_place_12 rfl rfl ?_
    refine aw_iload_n (pc := 13) C dX6_place_13 rfl rfl ?_
    obtain ⟨hp9, hw⟩ := hw
    refine aw_callV (pc := 14) (as := [vI a2]) C ci6 (fun As hA => met_X6_isPiece G l As a0 a2 _ _ hA hw) tw548 tw550 (tbp 24 (n := 8) (by decide +kernel)) tw1 tw551 ⟨rfl, rfl⟩ ⟨rfl, by decide, by decide, pd_X6_isPiece⟩ ⟨Nat.le_of_ble_eq_true rfl, Nat.le_of_ble_eq_true rfl⟩ ⟨(Nat.le_of_ble_eq_true rfl), (Nat.le_of_ble_eq_true rfl)⟩ (Nat.le_of_ble_eq_true rfl) dX6_place_14 rfl hp9 (fun v9 h14 hq9 => ?_)
    obtain ⟨r14, rfl, hw⟩ := hq9
    refine aw_if_ne (pc := 17) (tgt := 30) C dX6_place_17 (by decide) (fun hc9 => ?_) (fun hc9 => ?_)
    · have hw := hw.1 hc9
      refine aw_aload_n (pc := 30) C dX6_place_30 rfl rfl ?_
      obtain ⟨hp9, b31, hb9, hw⟩ := hw
      refine aw_getR (pc := 31) C (ci := 6) (k := 1) ci6 (by decide) tw219 dX6_place_31 rfl hp9 hb9 ?_
      refine aw_iload_n (pc := 34) C dX6_place_34 rfl rfl ?_
      refine aw_iload_n (pc := 35) C dX6_place_35 rfl rfl ?_
      obtain ⟨hp9, hw⟩ := hw
      refine aw_callV (pc := 36) (as := [vI a2, vI a1]) C ci1 (fun As hA => met_X1_cellOf G l As b31 a2 a1 _ _ hA hw) tw554 tw516 tw517 tw6 tw518 ⟨rfl, rfl⟩ ⟨rfl, by decide, by decide, pd_X1_cellOf⟩ ⟨Nat.le_of_ble_eq_true rfl, Nat.le_of_ble_eq_true rfl⟩ ⟨(Nat.le_of_ble_eq_true rfl), (Nat.le_of_ble_eq_true rfl)⟩ (Nat.le_of_ble_eq_true rfl) dX6_place_36 rfl hp9 (fun v9 h36 hq9 => ?_)
      obtain ⟨r36, rfl, hw⟩ := hq9
      exact aw_iret (pc := 39) C hr dX6_place_39 ⟨Nat.le_of_ble_eq_true rfl, Nat.le_of_ble_eq_true rfl⟩ ⟨_, rfl, hw⟩
    · have hw := hw.2 hc9
      refine aw_sub [] trivial ?_
      exact J_20  _ hw
theorem dX6_frame_0 : decode cX6_frame 0 = .ok (.aload_n 0, 1) := by decide +kernel
theorem dX6_frame_1 : decode cX6_frame 1 = .ok (.invokevirtual 135, 3) := by decide +kernel
theorem dX6_frame_4 : decode cX6_frame 4 = .ok (.aload_n 0, 1) := by decide +kernel
theorem dX6_frame_5 : decode cX6_frame 5 = .ok (.iload_n 1, 1) := by decide +kernel
theorem dX6_frame_6 : decode cX6_frame 6 = .ok (.invokevirtual 170, 3) := by decide +kernel
theorem dX6_frame_9 : decode cX6_frame 9 = .ok (.ifCond .ne 13, 3) := by decide +kernel
theorem dX6_frame_12 : decode cX6_frame 12 = .ok (.new 69, 3) := by decide +kernel
theorem dX6_frame_15 : decode cX6_frame 15 = .ok (.dup, 1) := by decide +kernel
theorem dX6_frame_16 : decode cX6_frame 16 = .ok (.ldc 183, 2) := by decide +kernel
theorem dX6_frame_18 : decode cX6_frame 18 = .ok (.invokespecial 73, 3) := by decide +kernel
theorem dX6_frame_21 : decode cX6_frame 21 = .ok (.athrow, 1) := by decide +kernel
theorem dX6_frame_22 : decode cX6_frame 22 = .ok (.iload_n 2, 1) := by decide +kernel
theorem dX6_frame_23 : decode cX6_frame 23 = .ok (.ifCond .lt 8, 3) := by decide +kernel
theorem dX6_frame_26 : decode cX6_frame 26 = .ok (.iload_n 2, 1) := by decide +kernel
theorem dX6_frame_27 : decode cX6_frame 27 = .ok (.iconst 5, 1) := by decide +kernel
theorem dX6_frame_28 : decode cX6_frame 28 = .ok (.if_icmp .lt 13, 3) := by decide +kernel
theorem dX6_frame_31 : decode cX6_frame 31 = .ok (.new 80, 3) := by decide +kernel
theorem dX6_frame_34 : decode cX6_frame 34 = .ok (.dup, 1) := by decide +kernel
theorem dX6_frame_35 : decode cX6_frame 35 = .ok (.ldc 155, 2) := by decide +kernel
theorem dX6_frame_37 : decode cX6_frame 37 = .ok (.invokespecial 84, 3) := by decide +kernel
theorem dX6_frame_40 : decode cX6_frame 40 = .ok (.athrow, 1) := by decide +kernel
theorem dX6_frame_41 : decode cX6_frame 41 = .ok (.aload_n 0, 1) := by decide +kernel
theorem dX6_frame_42 : decode cX6_frame 42 = .ok (.getfield 21, 3) := by decide +kernel
theorem dX6_frame_45 : decode cX6_frame 45 = .ok (.iload_n 1, 1) := by decide +kernel
theorem dX6_frame_46 : decode cX6_frame 46 = .ok (.iload_n 2, 1) := by decide +kernel
theorem dX6_frame_47 : decode cX6_frame 47 = .ok (.invokevirtual 185, 3) := by decide +kernel
theorem dX6_frame_50 : decode cX6_frame 50 = .ok (.ireturn, 1) := by decide +kernel
theorem pd_X6_frame : (parseMethodDescriptor yX6_frame.desc).map (fun d => d.parameters.length) = some 2 := by decide +kernel
def w_X6_frame (zz : Nat → Nat) (a0 : Nat) (a1 : Int) (a2 : Int) (h : AH) (Q : Int → AH → Prop) (X : String → AH → Prop) : Prop := okA h a0 6 ∧ w_X6_refresh zz a0 h (fun  (h1 : AH) => okA h1 a0 6 ∧ w_X6_isFrame zz a0 a1 h1 (fun (r6 : Int) (h6 : AH) => ((¬ r6 = 0) → jn (fun  (h_31 : AH) => hn h ≤ hn h_31 ∧ ∀ k : Nat, X "java/lang/IllegalArgumentException" (nGb h_31 k)) (fun k_31 : AH → Prop => ((a2 < 0) → k_31  h6) ∧ ((¬ (a2 < 0)) → ((a2 < (5 : Int)) → okA h6 a0 6 ∧ ∃ b42 : Nat, hfR h6 a0 1 = some b42 ∧ okA h6 b42 1 ∧ w_X1_frameProperty zz b42 a1 a2 h6 (fun (r47 : Int) (h47 : AH) => Q r47 h47)) ∧ ((¬ (a2 < (5 : Int))) → k_31  h6)))) ∧ ((r6 = 0) → hn h ≤ hn h6 ∧ ∀ k : Nat, X "java/lang/IndexOutOfBoundsException" (nGb h6 k))))
set_option maxRecDepth 100000 in
set_option maxHeartbeats 4000000 in
theorem met_X6_frame (G : GG) (l : Launch) : ∀ (As : List Value) (a0 : Nat) (a1 : Int) (a2 : Int) (h : AH) (Q : Int → AH → Prop), As.map ab = List.map some ([vR a0, vI a1, vI a2] : List AV) → w_X6_frame G.2.2 a0 a1 a2 h Q (fun _ _ => False) → Met l yX6_frame (.code yX6_frame cX6_frame 3 (some .int) :: xTb) ({ frames := 6, cells := 0, slots := 0, locals := 136 } : Room) (PcA G As h) (QG G (oI Q)) 0 0 (frA G) := by
  intro As a0 a1 a2 h Q hA hw
  refine met_of hA (by decide) (Nat.le_of_ble_eq_true rfl) (fun p e s m args below meth c C hml hr hnm => ?_)
  unfold w_X6_frame at hw
  refine aw_aload_n (pc := 0) C dX6_frame_0 rfl rfl ?_
  obtain ⟨hp9, hw⟩ := hw
  refine aw_callV (pc := 1) (as := []) C ci6 (fun As hA => met_X6_refresh G l As a0 _ _ hA hw) tw315 tw317 (tbp 1 (n := 8) (by decide +kernel)) tw1 tw318 ⟨rfl, rfl⟩ ⟨rfl, by decide, by decide, pd_X6_refresh⟩ ⟨Nat.le_of_ble_eq_true rfl, Nat.le_of_ble_eq_true rfl⟩ ⟨(Nat.le_of_ble_eq_true rfl), (Nat.le_of_ble_eq_true rfl)⟩ (Nat.le_of_ble_eq_true rfl) dX6_frame_1 rfl hp9 (fun v9 h1 hq9 => ?_)
  obtain ⟨rfl, hw⟩ := hq9
  refine aw_aload_n (pc := 4) C dX6_frame_4 rfl rfl ?_
  refine aw_iload_n (pc := 5) C dX6_frame_5 rfl rfl ?_
  obtain ⟨hp9, hw⟩ := hw
  refine aw_callV (pc := 6) (as := [vI a1]) C ci6 (fun As hA => met_X6_isFrame G l As a0 a1 _ _ hA hw) tw481 tw483 (tbp 19 (n := 8) (by decide +kernel)) tw1 tw484 ⟨rfl, rfl⟩ ⟨rfl, by decide, by decide, pd_X6_isFrame⟩ ⟨Nat.le_of_ble_eq_true rfl, Nat.le_of_ble_eq_true rfl⟩ ⟨(Nat.le_of_ble_eq_true rfl), (Nat.le_of_ble_eq_true rfl)⟩ (Nat.le_of_ble_eq_true rfl) dX6_frame_6 rfl hp9 (fun v9 h6 hq9 => ?_)
  obtain ⟨r6, rfl, hw⟩ := hq9
  refine aw_if_ne (pc := 9) (tgt := 22) C dX6_frame_9 (by decide) (fun hc9 => ?_) (fun hc9 => ?_)
  · have hw := hw.1 hc9
    refine aw_iload_n (pc := 22) C dX6_frame_22 rfl rfl ?_
    obtain ⟨k_31, hk_31, hw⟩ := jn_out hw
    have J_31 : ∀  (h_31 : AH), k_31  h_31 → AW G p l e ({ frames := 6, cells := 0, slots := 0, locals := 136 } : Room) s m args below meth c 0 0 (MQ below (QG G (oI Q)) args s 0 0 (frA G)) 31 (eOf []) [] h_31 := by
      intro  h_31 hw
      rw [hk_31] at hw
      exact False.elim (hw.2 0)
    refine aw_if_lt (pc := 23) (tgt := 31) C dX6_frame_23 (by decide) (fun hc9 => ?_) (fun hc9 => ?_)
    · have hw := hw.1 hc9
      refine aw_sub [] trivial ?_
      exact J_31  _ hw
    · have hw := hw.2 hc9
      refine aw_iload_n (pc := 26) C dX6_frame_26 rfl rfl ?_
      refine aw_iconst (pc := 27) C dX6_frame_27 (i := (5 : Int)) (by decide) ?_
      refine aw_icmp_lt (pc := 28) (tgt := 41) C dX6_frame_28 (by decide) (fun hc9 => ?_) (fun hc9 => ?_)
      · have hw := hw.1 hc9
        refine aw_aload_n (pc := 41) C dX6_frame_41 rfl rfl ?_
        obtain ⟨hp9, b42, hb9, hw⟩ := hw
        refine aw_getR (pc := 42) C (ci := 6) (k := 1) ci6 (by decide) tw219 dX6_frame_42 rfl hp9 hb9 ?_
        refine aw_iload_n (pc := 45) C dX6_frame_45 rfl rfl ?_
        refine aw_iload_n (pc := 46) C dX6_frame_46 rfl rfl ?_
        obtain ⟨hp9, hw⟩ := hw
        refine aw_callV (pc := 47) (as := [vI a1, vI a2]) C ci1 (fun As hA => met_X1_frameProperty G l As b42 a1 a2 _ _ hA hw) tw561 tw562 tw563 tw6 tw564 ⟨rfl, rfl⟩ ⟨rfl, by decide, by decide, pd_X1_frameProperty⟩ ⟨Nat.le_of_ble_eq_true rfl, Nat.le_of_ble_eq_true rfl⟩ ⟨(Nat.le_of_ble_eq_true rfl), (Nat.le_of_ble_eq_true rfl)⟩ (Nat.le_of_ble_eq_true rfl) dX6_frame_47 rfl hp9 (fun v9 h47 hq9 => ?_)
        obtain ⟨r47, rfl, hw⟩ := hq9
        exact aw_iret (pc := 50) C hr dX6_frame_50 ⟨Nat.le_of_ble_eq_true rfl, Nat.le_of_ble_eq_true rfl⟩ ⟨_, rfl, hw⟩
      · have hw := hw.2 hc9
        refine aw_sub [] trivial ?_
        exact J_31  _ hw
  · have hw := hw.2 hc9
    exact False.elim (hw.2 0)
theorem dX6_count_0 : decode cX6_count 0 = .ok (.iload_n 1, 1) := by decide +kernel
theorem dX6_count_1 : decode cX6_count 1 = .ok (.ifCond .lt 9, 3) := by decide +kernel
theorem dX6_count_4 : decode cX6_count 4 = .ok (.iload_n 1, 1) := by decide +kernel
theorem dX6_count_5 : decode cX6_count 5 = .ok (.bipush 12, 2) := by decide +kernel
theorem dX6_count_7 : decode cX6_count 7 = .ok (.if_icmp .le 13, 3) := by decide +kernel
theorem dX6_count_10 : decode cX6_count 10 = .ok (.new 80, 3) := by decide +kernel
theorem dX6_count_13 : decode cX6_count 13 = .ok (.dup, 1) := by decide +kernel
theorem dX6_count_14 : decode cX6_count 14 = .ok (.ldc 188, 2) := by decide +kernel
theorem dX6_count_16 : decode cX6_count 16 = .ok (.invokespecial 84, 3) := by decide +kernel
theorem dX6_count_19 : decode cX6_count 19 = .ok (.athrow, 1) := by decide +kernel
theorem dX6_count_20 : decode cX6_count 20 = .ok (.aload_n 0, 1) := by decide +kernel
theorem dX6_count_21 : decode cX6_count 21 = .ok (.invokevirtual 135, 3) := by decide +kernel
theorem dX6_count_24 : decode cX6_count 24 = .ok (.iload_n 1, 1) := by decide +kernel
theorem dX6_count_25 : decode cX6_count 25 = .ok (.bipush 12, 2) := by decide +kernel
theorem dX6_count_27 : decode cX6_count 27 = .ok (.if_icmp .ne 10, 3) := by decide +kernel
theorem dX6_count_30 : decode cX6_count 30 = .ok (.aload_n 0, 1) := by decide +kernel
theorem dX6_count_31 : decode cX6_count 31 = .ok (.getfield 42, 3) := by decide +kernel
theorem dX6_count_34 : decode cX6_count 34 = .ok (.goto 11, 3) := by decide +kernel
theorem dX6_count_37 : decode cX6_count 37 = .ok (.aload_n 0, 1) := by decide +kernel
theorem dX6_count_38 : decode cX6_count 38 = .ok (.getfield 21, 3) := by decide +kernel
theorem dX6_count_41 : decode cX6_count 41 = .ok (.iload_n 1, 1) := by decide +kernel
theorem dX6_count_42 : decode cX6_count 42 = .ok (.invokevirtual 190, 3) := by decide +kernel
theorem dX6_count_45 : decode cX6_count 45 = .ok (.ireturn, 1) := by decide +kernel
theorem pd_X6_count : (parseMethodDescriptor yX6_count.desc).map (fun d => d.parameters.length) = some 1 := by decide +kernel
def w_X6_count (zz : Nat → Nat) (a0 : Nat) (a1 : Int) (h : AH) (Q : Int → AH → Prop) (X : String → AH → Prop) : Prop := jn (fun  (h_10 : AH) => hn h ≤ hn h_10 ∧ ∀ k : Nat, X "java/lang/IllegalArgumentException" (nGb h_10 k)) (fun k_10 : AH → Prop => ((a1 < 0) → k_10  h) ∧ ((¬ (a1 < 0)) → ((a1 ≤ (12 : Int)) → okA h a0 6 ∧ w_X6_refresh zz a0 h (fun  (h21 : AH) => jn (fun (t0_45 : Int) (h_45 : AH) => Q t0_45 h_45) (fun k_45 : Int → AH → Prop => ((¬ a1 = (12 : Int)) → okA h21 a0 6 ∧ ∃ b38 : Nat, hfR h21 a0 1 = some b38 ∧ okA h21 b38 1 ∧ w_X1_number zz b38 a1 h21 (fun (r42 : Int) (h42 : AH) => k_45 r42 h42)) ∧ ((a1 = (12 : Int)) → okA h21 a0 6 ∧ k_45 (hfI h21 a0 6) h21)))) ∧ ((¬ (a1 ≤ (12 : Int))) → k_10  h)))
set_option maxRecDepth 100000 in
set_option maxHeartbeats 4000000 in
theorem met_X6_count (G : GG) (l : Launch) : ∀ (As : List Value) (a0 : Nat) (a1 : Int) (h : AH) (Q : Int → AH → Prop), As.map ab = List.map some ([vR a0, vI a1] : List AV) → w_X6_count G.2.2 a0 a1 h Q (fun _ _ => False) → Met l yX6_count (.code yX6_count cX6_count 2 (some .int) :: xTb) ({ frames := 6, cells := 0, slots := 0, locals := 136 } : Room) (PcA G As h) (QG G (oI Q)) 0 0 (frA G) := by
  intro As a0 a1 h Q hA hw
  refine met_of hA (by decide) (Nat.le_of_ble_eq_true rfl) (fun p e s m args below meth c C hml hr hnm => ?_)
  unfold w_X6_count at hw
  refine aw_iload_n (pc := 0) C dX6_count_0 rfl rfl ?_
  obtain ⟨k_10, hk_10, hw⟩ := jn_out hw
  have J_10 : ∀  (h_10 : AH), k_10  h_10 → AW G p l e ({ frames := 6, cells := 0, slots := 0, locals := 136 } : Room) s m args below meth c 0 0 (MQ below (QG G (oI Q)) args s 0 0 (frA G)) 10 (eOf []) [] h_10 := by
    intro  h_10 hw
    rw [hk_10] at hw
    exact False.elim (hw.2 0)
  refine aw_if_lt (pc := 1) (tgt := 10) C dX6_count_1 (by decide) (fun hc9 => ?_) (fun hc9 => ?_)
  · have hw := hw.1 hc9
    refine aw_sub [] trivial ?_
    exact J_10  _ hw
  · have hw := hw.2 hc9
    refine aw_iload_n (pc := 4) C dX6_count_4 rfl rfl ?_
    refine aw_bipush (pc := 5) C dX6_count_5 (i := (12 : Int)) (by decide) ?_
    refine aw_icmp_le (pc := 7) (tgt := 20) C dX6_count_7 (by decide) (fun hc9 => ?_) (fun hc9 => ?_)
    · have hw := hw.1 hc9
      refine aw_aload_n (pc := 20) C dX6_count_20 rfl rfl ?_
      obtain ⟨hp9, hw⟩ := hw
      refine aw_callV (pc := 21) (as := []) C ci6 (fun As hA => met_X6_refresh G l As a0 _ _ hA hw) tw315 tw317 (tbp 1 (n := 8) (by decide +kernel)) tw1 tw318 ⟨rfl, rfl⟩ ⟨rfl, by decide, by decide, pd_X6_refresh⟩ ⟨Nat.le_of_ble_eq_true rfl, Nat.le_of_ble_eq_true rfl⟩ ⟨(Nat.le_of_ble_eq_true rfl), (Nat.le_of_ble_eq_true rfl)⟩ (Nat.le_of_ble_eq_true rfl) dX6_count_21 rfl hp9 (fun v9 h21 hq9 => ?_)
      obtain ⟨rfl, hw⟩ := hq9
      refine aw_iload_n (pc := 24) C dX6_count_24 rfl rfl ?_
      refine aw_bipush (pc := 25) C dX6_count_25 (i := (12 : Int)) (by decide) ?_
      obtain ⟨k_45, hk_45, hw⟩ := jn_out hw
      have J_45 : ∀ (t0_45 : Int) (h_45 : AH), k_45 t0_45 h_45 → AW G p l e ({ frames := 6, cells := 0, slots := 0, locals := 136 } : Room) s m args below meth c 0 0 (MQ below (QG G (oI Q)) args s 0 0 (frA G)) 45 (eOf []) [vI t0_45] h_45 := by
        intro t0_45 h_45 hw
        rw [hk_45] at hw
        exact aw_iret (pc := 45) C hr dX6_count_45 ⟨Nat.le_of_ble_eq_true rfl, Nat.le_of_ble_eq_true rfl⟩ ⟨_, rfl, hw⟩
      refine aw_icmp_ne (pc := 27) (tgt := 37) C dX6_count_27 (by decide) (fun hc9 => ?_) (fun hc9 => ?_)
      · have hw := hw.1 hc9
        refine aw_aload_n (pc := 37) C dX6_count_37 rfl rfl ?_
        obtain ⟨hp9, b38, hb9, hw⟩ := hw
        refine aw_getR (pc := 38) C (ci := 6) (k := 1) ci6 (by decide) tw219 dX6_count_38 rfl hp9 hb9 ?_
        refine aw_iload_n (pc := 41) C dX6_count_41 rfl rfl ?_
        obtain ⟨hp9, hw⟩ := hw
        refine aw_callV (pc := 42) (as := [vI a1]) C ci1 (fun As hA => met_X1_number G l As b38 a1 _ _ hA hw) tw415 tw416 tw417 tw6 tw418 ⟨rfl, rfl⟩ ⟨rfl, by decide, by decide, pd_X1_number⟩ ⟨Nat.le_of_ble_eq_true rfl, Nat.le_of_ble_eq_true rfl⟩ ⟨(Nat.le_of_ble_eq_true rfl), (Nat.le_of_ble_eq_true rfl)⟩ (Nat.le_of_ble_eq_true rfl) dX6_count_42 rfl hp9 (fun v9 h42 hq9 => ?_)
        obtain ⟨r42, rfl, hw⟩ := hq9
        refine aw_sub [] trivial ?_
        exact J_45 _ _ hw
      · have hw := hw.2 hc9
        refine aw_aload_n (pc := 30) C dX6_count_30 rfl rfl ?_
        obtain ⟨hp9, hw⟩ := hw
        refine aw_getI (pc := 31) C (ci := 6) (k := 6) ci6 (by decide) tw224 dX6_count_31 rfl hp9 ?_
        refine aw_goto (pc := 34) (tgt := 45) C dX6_count_34 (by decide) ?_
        refine aw_sub [] trivial ?_
        exact J_45 _ _ hw
    · have hw := hw.2 hc9
      refine aw_sub [] trivial ?_
      exact J_10  _ hw
theorem dX6_setting_0 : decode cX6_setting 0 = .ok (.iload_n 1, 1) := by decide +kernel
theorem dX6_setting_1 : decode cX6_setting 1 = .ok (.invokestatic 65, 3) := by decide +kernel
theorem dX6_setting_4 : decode cX6_setting 4 = .ok (.ifCond .ne 13, 3) := by decide +kernel
theorem dX6_setting_7 : decode cX6_setting 7 = .ok (.new 69, 3) := by decide +kernel
theorem dX6_setting_10 : decode cX6_setting 10 = .ok (.dup, 1) := by decide +kernel
theorem dX6_setting_11 : decode cX6_setting 11 = .ok (.ldc 71, 2) := by decide +kernel
theorem dX6_setting_13 : decode cX6_setting 13 = .ok (.invokespecial 73, 3) := by decide +kernel
theorem dX6_setting_16 : decode cX6_setting 16 = .ok (.athrow, 1) := by decide +kernel
theorem dX6_setting_17 : decode cX6_setting 17 = .ok (.aload_n 0, 1) := by decide +kernel
theorem dX6_setting_18 : decode cX6_setting 18 = .ok (.getfield 12, 3) := by decide +kernel
theorem dX6_setting_21 : decode cX6_setting 21 = .ok (.getfield 85, 3) := by decide +kernel
theorem dX6_setting_24 : decode cX6_setting 24 = .ok (.iload_n 1, 1) := by decide +kernel
theorem dX6_setting_25 : decode cX6_setting 25 = .ok (.iaload, 1) := by decide +kernel
theorem dX6_setting_26 : decode cX6_setting 26 = .ok (.ireturn, 1) := by decide +kernel
theorem pd_X6_setting : (parseMethodDescriptor yX6_setting.desc).map (fun d => d.parameters.length) = some 1 := by decide +kernel
def w_X6_setting (zz : Nat → Nat) (a0 : Nat) (a1 : Int) (h : AH) (Q : Int → AH → Prop) (X : String → AH → Prop) : Prop := w_X6_isSetting zz a1 h (fun (r1 : Int) (h1 : AH) => ((¬ r1 = 0) → okA h1 a0 6 ∧ ∃ b18 : Nat, hfR h1 a0 0 = some b18 ∧ okA h1 b18 4 ∧ ∃ b21 : Nat, hfR h1 b18 0 = some b21 ∧ okI h1 b21 a1 ∧ Q (haI h1 b21 a1) h1) ∧ ((r1 = 0) → hn h ≤ hn h1 ∧ ∀ k : Nat, X "java/lang/IndexOutOfBoundsException" (nGb h1 k)))
set_option maxRecDepth 100000 in
set_option maxHeartbeats 4000000 in
theorem met_X6_setting (G : GG) (l : Launch) : ∀ (As : List Value) (a0 : Nat) (a1 : Int) (h : AH) (Q : Int → AH → Prop), As.map ab = List.map some ([vR a0, vI a1] : List AV) → w_X6_setting G.2.2 a0 a1 h Q (fun _ _ => False) → Met l yX6_setting (.code yX6_setting cX6_setting 2 (some .int) :: xTb) ({ frames := 1, cells := 0, slots := 0, locals := 20 } : Room) (PcA G As h) (QG G (oI Q)) 0 0 (frA G) := by
  intro As a0 a1 h Q hA hw
  refine met_of hA (by decide) (Nat.le_of_ble_eq_true rfl) (fun p e s m args below meth c C hml hr hnm => ?_)
  unfold w_X6_setting at hw
  refine aw_iload_n (pc := 0) C dX6_setting_0 rfl rfl ?_
  refine aw_callS (pc := 1) (as := [vI a1]) C (fun As hA => met_X6_isSetting G l As a1 _ _ hA hw) tw628 tw629 tw1 tw630 ⟨rfl, rfl⟩ ⟨by decide, by decide, pd_X6_isSetting⟩ ⟨Nat.le_of_ble_eq_true rfl, Nat.le_of_ble_eq_true rfl⟩ ⟨(Nat.le_of_ble_eq_true rfl), (Nat.le_of_ble_eq_true rfl)⟩ (Nat.le_of_ble_eq_true rfl) dX6_setting_1 rfl (fun v9 h1 hq9 => ?_)
  obtain ⟨r1, rfl, hw⟩ := hq9
  refine aw_if_ne (pc := 4) (tgt := 17) C dX6_setting_4 (by decide) (fun hc9 => ?_) (fun hc9 => ?_)
  · have hw := hw.1 hc9
    refine aw_aload_n (pc := 17) C dX6_setting_17 rfl rfl ?_
    obtain ⟨hp9, b18, hb9, hw⟩ := hw
    refine aw_getR (pc := 18) C (ci := 6) (k := 0) ci6 (by decide) tw218 dX6_setting_18 rfl hp9 hb9 ?_
    obtain ⟨hp9, b21, hb9, hw⟩ := hw
    refine aw_getR (pc := 21) C (ci := 4) (k := 0) ci4 (by decide) tw66 dX6_setting_21 rfl hp9 hb9 ?_
    refine aw_iload_n (pc := 24) C dX6_setting_24 rfl rfl ?_
    obtain ⟨⟨k9, hp9⟩, hw⟩ := hw
    refine aw_iald (pc := 25) C dX6_setting_25 hp9 ?_
    exact aw_iret (pc := 26) C hr dX6_setting_26 ⟨Nat.le_of_ble_eq_true rfl, Nat.le_of_ble_eq_true rfl⟩ ⟨_, rfl, hw⟩
  · have hw := hw.2 hc9
    exact False.elim (hw.2 0)
