/-! THE METHODS, BY PROGRAM (wip/whole/gen.py): what each means (w_..), and its contract (met_..) -/
theorem dX7_fresh_0 : decode cX7_fresh 0 = .ok (.iconst 0, 1) := by decide +kernel
theorem dX7_fresh_1 : decode cX7_fresh 1 = .ok (.istore_n 1, 1) := by decide +kernel
theorem dX7_fresh_2 : decode cX7_fresh 2 = .ok (.iload_n 1, 1) := by decide +kernel
theorem dX7_fresh_3 : decode cX7_fresh 3 = .ok (.sipush 160, 3) := by decide +kernel
theorem dX7_fresh_6 : decode cX7_fresh 6 = .ok (.if_icmp .ge 17, 3) := by decide +kernel
theorem dX7_fresh_9 : decode cX7_fresh 9 = .ok (.aload_n 0, 1) := by decide +kernel
theorem dX7_fresh_10 : decode cX7_fresh 10 = .ok (.getfield 7, 3) := by decide +kernel
theorem dX7_fresh_13 : decode cX7_fresh 13 = .ok (.iload_n 1, 1) := by decide +kernel
theorem dX7_fresh_14 : decode cX7_fresh 14 = .ok (.bipush 32, 2) := by decide +kernel
theorem dX7_fresh_16 : decode cX7_fresh 16 = .ok (.iastore, 1) := by decide +kernel
theorem dX7_fresh_17 : decode cX7_fresh 17 = .ok (.iinc 1 1, 3) := by decide +kernel
theorem dX7_fresh_20 : decode cX7_fresh 20 = .ok (.goto (-18), 3) := by decide +kernel
theorem dX7_fresh_23 : decode cX7_fresh 23 = .ok (.aload_n 0, 1) := by decide +kernel
theorem dX7_fresh_24 : decode cX7_fresh 24 = .ok (.getfield 7, 3) := by decide +kernel
theorem dX7_fresh_27 : decode cX7_fresh 27 = .ok (.sipush 160, 3) := by decide +kernel
theorem dX7_fresh_30 : decode cX7_fresh 30 = .ok (.iconst 2, 1) := by decide +kernel
theorem dX7_fresh_31 : decode cX7_fresh 31 = .ok (.iastore, 1) := by decide +kernel
theorem dX7_fresh_32 : decode cX7_fresh 32 = .ok (.aload_n 0, 1) := by decide +kernel
theorem dX7_fresh_33 : decode cX7_fresh 33 = .ok (.getfield 7, 3) := by decide +kernel
theorem dX7_fresh_36 : decode cX7_fresh 36 = .ok (.sipush 161, 3) := by decide +kernel
theorem dX7_fresh_39 : decode cX7_fresh 39 = .ok (.bipush 60, 2) := by decide +kernel
theorem dX7_fresh_41 : decode cX7_fresh 41 = .ok (.iastore, 1) := by decide +kernel
theorem dX7_fresh_42 : decode cX7_fresh 42 = .ok (.aload_n 0, 1) := by decide +kernel
theorem dX7_fresh_43 : decode cX7_fresh 43 = .ok (.getfield 7, 3) := by decide +kernel
theorem dX7_fresh_46 : decode cX7_fresh 46 = .ok (.sipush 162, 3) := by decide +kernel
theorem dX7_fresh_49 : decode cX7_fresh 49 = .ok (.bipush 12, 2) := by decide +kernel
theorem dX7_fresh_51 : decode cX7_fresh 51 = .ok (.iastore, 1) := by decide +kernel
theorem dX7_fresh_52 : decode cX7_fresh 52 = .ok (.aload_n 0, 1) := by decide +kernel
theorem dX7_fresh_53 : decode cX7_fresh 53 = .ok (.getfield 7, 3) := by decide +kernel
theorem dX7_fresh_56 : decode cX7_fresh 56 = .ok (.sipush 163, 3) := by decide +kernel
theorem dX7_fresh_59 : decode cX7_fresh 59 = .ok (.iconst 0, 1) := by decide +kernel
theorem dX7_fresh_60 : decode cX7_fresh 60 = .ok (.iastore, 1) := by decide +kernel
theorem dX7_fresh_61 : decode cX7_fresh 61 = .ok (.aload_n 0, 1) := by decide +kernel
theorem dX7_fresh_62 : decode cX7_fresh 62 = .ok (.getfield 7, 3) := by decide +kernel
theorem dX7_fresh_65 : decode cX7_fresh 65 = .ok (.sipush 164, 3) := by decide +kernel
theorem dX7_fresh_68 : decode cX7_fresh 68 = .ok (.iconst 0, 1) := by decide +kernel
theorem dX7_fresh_69 : decode cX7_fresh 69 = .ok (.iastore, 1) := by decide +kernel
theorem dX7_fresh_70 : decode cX7_fresh 70 = .ok (.aload_n 0, 1) := by decide +kernel
theorem dX7_fresh_71 : decode cX7_fresh 71 = .ok (.getfield 7, 3) := by decide +kernel
theorem dX7_fresh_74 : decode cX7_fresh 74 = .ok (.sipush 165, 3) := by decide +kernel
theorem dX7_fresh_77 : decode cX7_fresh 77 = .ok (.iconst 3, 1) := by decide +kernel
theorem dX7_fresh_78 : decode cX7_fresh 78 = .ok (.iastore, 1) := by decide +kernel
theorem dX7_fresh_79 : decode cX7_fresh 79 = .ok (.aload_n 0, 1) := by decide +kernel
theorem dX7_fresh_80 : decode cX7_fresh 80 = .ok (.getfield 7, 3) := by decide +kernel
theorem dX7_fresh_83 : decode cX7_fresh 83 = .ok (.sipush 166, 3) := by decide +kernel
theorem dX7_fresh_86 : decode cX7_fresh 86 = .ok (.iconst 2, 1) := by decide +kernel
theorem dX7_fresh_87 : decode cX7_fresh 87 = .ok (.iastore, 1) := by decide +kernel
theorem dX7_fresh_88 : decode cX7_fresh 88 = .ok (.aload_n 0, 1) := by decide +kernel
theorem dX7_fresh_89 : decode cX7_fresh 89 = .ok (.getfield 7, 3) := by decide +kernel
theorem dX7_fresh_92 : decode cX7_fresh 92 = .ok (.sipush 167, 3) := by decide +kernel
theorem dX7_fresh_95 : decode cX7_fresh 95 = .ok (.iconst 2, 1) := by decide +kernel
theorem dX7_fresh_96 : decode cX7_fresh 96 = .ok (.iastore, 1) := by decide +kernel
theorem dX7_fresh_97 : decode cX7_fresh 97 = .ok (.return_, 1) := by decide +kernel
theorem pd_X7_fresh : (parseMethodDescriptor yX7_fresh.desc).map (fun d => d.parameters.length) = some 0 := by decide +kernel
def w_X7_fresh (zz : Nat → Nat) (a0 : Nat) (h : AH) (Q : AH → Prop) : Prop := ∃ I_2 : Nat → Int → AH → Prop, (∃ n, I_2 n (0 : Int) h) ∧ ∀ (n_2 : Nat) (x1_2 : Int) (h_2 : AH), I_2 n_2 x1_2 h_2 → ((((160 : Int) ≤ x1_2) → okA h_2 a0 7 ∧ ∃ b24 : Nat, hfR h_2 a0 1 = some b24 ∧ okW h_2 b24 (160 : Int) ∧ ∀ h31 : AH, h31 = saI h_2 b24 (u1 (haI h_2 b24) (160 : Int) (2 : Int)) → okA h31 a0 7 ∧ ∃ b33 : Nat, hfR h31 a0 1 = some b33 ∧ okW h31 b33 (161 : Int) ∧ ∀ h41 : AH, h41 = saI h31 b33 (u1 (haI h31 b33) (161 : Int) (60 : Int)) → okA h41 a0 7 ∧ ∃ b43 : Nat, hfR h41 a0 1 = some b43 ∧ okW h41 b43 (162 : Int) ∧ ∀ h51 : AH, h51 = saI h41 b43 (u1 (haI h41 b43) (162 : Int) (12 : Int)) → okA h51 a0 7 ∧ ∃ b53 : Nat, hfR h51 a0 1 = some b53 ∧ okW h51 b53 (163 : Int) ∧ ∀ h60 : AH, h60 = saI h51 b53 (u1 (haI h51 b53) (163 : Int) (0 : Int)) → okA h60 a0 7 ∧ ∃ b62 : Nat, hfR h60 a0 1 = some b62 ∧ okW h60 b62 (164 : Int) ∧ ∀ h69 : AH, h69 = saI h60 b62 (u1 (haI h60 b62) (164 : Int) (0 : Int)) → okA h69 a0 7 ∧ ∃ b71 : Nat, hfR h69 a0 1 = some b71 ∧ okW h69 b71 (165 : Int) ∧ ∀ h78 : AH, h78 = saI h69 b71 (u1 (haI h69 b71) (165 : Int) (3 : Int)) → okA h78 a0 7 ∧ ∃ b80 : Nat, hfR h78 a0 1 = some b80 ∧ okW h78 b80 (166 : Int) ∧ ∀ h87 : AH, h87 = saI h78 b80 (u1 (haI h78 b80) (166 : Int) (2 : Int)) → okA h87 a0 7 ∧ ∃ b89 : Nat, hfR h87 a0 1 = some b89 ∧ okW h87 b89 (167 : Int) ∧ ∀ h96 : AH, h96 = saI h87 b89 (u1 (haI h87 b89) (167 : Int) (2 : Int)) → Q h96) ∧ ((¬ ((160 : Int) ≤ x1_2)) → okA h_2 a0 7 ∧ ∃ b10 : Nat, hfR h_2 a0 1 = some b10 ∧ okW h_2 b10 x1_2 ∧ ∀ h16 : AH, h16 = saI h_2 b10 (u1 (haI h_2 b10) x1_2 (32 : Int)) → inR (x1_2 + 1) ∧ ∀ x1_17 : Int, x1_17 = (x1_2 + 1) → ∃ m, m < n_2 ∧ I_2 m x1_17 h16))
set_option maxRecDepth 100000 in
set_option maxHeartbeats 4000000 in
theorem met_X7_fresh (G : GG) (l : Launch) : ∀ (As : List Value) (a0 : Nat) (h : AH) (Q : AH → Prop), As.map ab = List.map some ([vR a0] : List AV) → w_X7_fresh G.2.2 a0 h Q → Met l yX7_fresh (.code yX7_fresh cX7_fresh 2 none :: xTb) ({ frames := 0, cells := 0, slots := 0, locals := 0 } : Room) (PcA G As h) (QG G (oV Q)) 0 0 (frA G) := by
  intro As a0 h Q hA hw
  refine met_of hA (by decide) (Nat.le_of_ble_eq_true rfl) (fun p e s m args below meth c C hml hr hnm => ?_)
  unfold w_X7_fresh at hw
  refine aw_iconst (pc := 0) C dX7_fresh_0 (i := (0 : Int)) (by decide) ?_
  refine aw_istore_n (pc := 1) C dX7_fresh_1 rfl (by rw [hml]; decide) ?_
  obtain ⟨I_2, ⟨n9, hi9⟩, hst9⟩ := hw
  have L_2 : ∀ (n_2 : Nat) (x1_2 : Int) (h_2 : AH), I_2 n_2 x1_2 h_2 → AW G p l e ({ frames := 0, cells := 0, slots := 0, locals := 0 } : Room) s m args below meth c 0 0 (MQ below (QG G (oV Q)) args s 0 0 (frA G)) 2 (eOf [(0, vR a0), (1, vI x1_2)]) [] h_2 := by
    intro n_2
    induction n_2 using Nat.strongRecOn with
    | _ n_2 ih_2 =>
    intro x1_2 h_2 hi9
    have hw := hst9 n_2 x1_2 h_2 hi9
    refine aw_iload_n (pc := 2) C dX7_fresh_2 rfl rfl ?_
    refine aw_sipush (pc := 3) C dX7_fresh_3 (i := (160 : Int)) (by decide) ?_
    refine aw_icmp_ge (pc := 6) (tgt := 23) C dX7_fresh_6 (by decide) (fun hc9 => ?_) (fun hc9 => ?_)
    · have hw := hw.1 hc9
      refine aw_aload_n (pc := 23) C dX7_fresh_23 rfl rfl ?_
      obtain ⟨hp9, b24, hb9, hw⟩ := hw
      refine aw_getR (pc := 24) C (ci := 7) (k := 1) ci7 (by decide) tw793 dX7_fresh_24 rfl hp9 hb9 ?_
      refine aw_sipush (pc := 27) C dX7_fresh_27 (i := (160 : Int)) (by decide) ?_
      refine aw_iconst (pc := 30) C dX7_fresh_30 (i := (2 : Int)) (by decide) ?_
      obtain ⟨⟨k9, hp9⟩, hw⟩ := hw
      refine aw_iast (pc := 31) C dX7_fresh_31 hp9 (aw_nmH (fun h31 e9 => ?_))
      have hw := hw h31 e9
      refine aw_aload_n (pc := 32) C dX7_fresh_32 rfl rfl ?_
      obtain ⟨hp9, b33, hb9, hw⟩ := hw
      refine aw_getR (pc := 33) C (ci := 7) (k := 1) ci7 (by decide) tw793 dX7_fresh_33 rfl hp9 hb9 ?_
      refine aw_sipush (pc := 36) C dX7_fresh_36 (i := (161 : Int)) (by decide) ?_
      refine aw_bipush (pc := 39) C dX7_fresh_39 (i := (60 : Int)) (by decide) ?_
      obtain ⟨⟨k9, hp9⟩, hw⟩ := hw
      refine aw_iast (pc := 41) C dX7_fresh_41 hp9 (aw_nmH (fun h41 e9 => ?_))
      have hw := hw h41 e9
      refine aw_aload_n (pc := 42) C dX7_fresh_42 rfl rfl ?_
      obtain ⟨hp9, b43, hb9, hw⟩ := hw
      refine aw_getR (pc := 43) C (ci := 7) (k := 1) ci7 (by decide) tw793 dX7_fresh_43 rfl hp9 hb9 ?_
      refine aw_sipush (pc := 46) C dX7_fresh_46 (i := (162 : Int)) (by decide) ?_
      refine aw_bipush (pc := 49) C dX7_fresh_49 (i := (12 : Int)) (by decide) ?_
      obtain ⟨⟨k9, hp9⟩, hw⟩ := hw
      refine aw_iast (pc := 51) C dX7_fresh_51 hp9 (aw_nmH (fun h51 e9 => ?_))
      have hw := hw h51 e9
      refine aw_aload_n (pc := 52) C dX7_fresh_52 rfl rfl ?_
      obtain ⟨hp9, b53, hb9, hw⟩ := hw
      refine aw_getR (pc := 53) C (ci := 7) (k := 1) ci7 (by decide) tw793 dX7_fresh_53 rfl hp9 hb9 ?_
      refine aw_sipush (pc := 56) C dX7_fresh_56 (i := (163 : Int)) (by decide) ?_
      refine aw_iconst (pc := 59) C dX7_fresh_59 (i := (0 : Int)) (by decide) ?_
      obtain ⟨⟨k9, hp9⟩, hw⟩ := hw
      refine aw_iast (pc := 60) C dX7_fresh_60 hp9 (aw_nmH (fun h60 e9 => ?_))
      have hw := hw h60 e9
      refine aw_aload_n (pc := 61) C dX7_fresh_61 rfl rfl ?_
      obtain ⟨hp9, b62, hb9, hw⟩ := hw
      refine aw_getR (pc := 62) C (ci := 7) (k := 1) ci7 (by decide) tw793 dX7_fresh_62 rfl hp9 hb9 ?_
      refine aw_sipush (pc := 65) C dX7_fresh_65 (i := (164 : Int)) (by decide) ?_
      refine aw_iconst (pc := 68) C dX7_fresh_68 (i := (0 : Int)) (by decide) ?_
      obtain ⟨⟨k9, hp9⟩, hw⟩ := hw
      refine aw_iast (pc := 69) C dX7_fresh_69 hp9 (aw_nmH (fun h69 e9 => ?_))
      have hw := hw h69 e9
      refine aw_aload_n (pc := 70) C dX7_fresh_70 rfl rfl ?_
      obtain ⟨hp9, b71, hb9, hw⟩ := hw
      refine aw_getR (pc := 71) C (ci := 7) (k := 1) ci7 (by decide) tw793 dX7_fresh_71 rfl hp9 hb9 ?_
      refine aw_sipush (pc := 74) C dX7_fresh_74 (i := (165 : Int)) (by decide) ?_
      refine aw_iconst (pc := 77) C dX7_fresh_77 (i := (3 : Int)) (by decide) ?_
      obtain ⟨⟨k9, hp9⟩, hw⟩ := hw
      refine aw_iast (pc := 78) C dX7_fresh_78 hp9 (aw_nmH (fun h78 e9 => ?_))
      have hw := hw h78 e9
      refine aw_aload_n (pc := 79) C dX7_fresh_79 rfl rfl ?_
      obtain ⟨hp9, b80, hb9, hw⟩ := hw
      refine aw_getR (pc := 80) C (ci := 7) (k := 1) ci7 (by decide) tw793 dX7_fresh_80 rfl hp9 hb9 ?_
      refine aw_sipush (pc := 83) C dX7_fresh_83 (i := (166 : Int)) (by decide) ?_
      refine aw_iconst (pc := 86) C dX7_fresh_86 (i := (2 : Int)) (by decide) ?_
      obtain ⟨⟨k9, hp9⟩, hw⟩ := hw
      refine aw_iast (pc := 87) C dX7_fresh_87 hp9 (aw_nmH (fun h87 e9 => ?_))
      have hw := hw h87 e9
      refine aw_aload_n (pc := 88) C dX7_fresh_88 rfl rfl ?_
      obtain ⟨hp9, b89, hb9, hw⟩ := hw
      refine aw_getR (pc := 89) C (ci := 7) (k := 1) ci7 (by decide) tw793 dX7_fresh_89 rfl hp9 hb9 ?_
      refine aw_sipush (pc := 92) C dX7_fresh_92 (i := (167 : Int)) (by decide) ?_
      refine aw_iconst (pc := 95) C dX7_fresh_95 (i := (2 : Int)) (by decide) ?_
      obtain ⟨⟨k9, hp9⟩, hw⟩ := hw
      refine aw_iast (pc := 96) C dX7_fresh_96 hp9 (aw_nmH (fun h96 e9 => ?_))
      have hw := hw h96 e9
      exact aw_vret (pc := 97) C hr dX7_fresh_97 ⟨Nat.le_of_ble_eq_true rfl, Nat.le_of_ble_eq_true rfl⟩ ⟨rfl, hw⟩
    · have hw := hw.2 hc9
      refine aw_aload_n (pc := 9) C dX7_fresh_9 rfl rfl ?_
      obtain ⟨hp9, b10, hb9, hw⟩ := hw
      refine aw_getR (pc := 10) C (ci := 7) (k := 1) ci7 (by decide) tw793 dX7_fresh_10 rfl hp9 hb9 ?_
      refine aw_iload_n (pc := 13) C dX7_fresh_13 rfl rfl ?_
      refine aw_bipush (pc := 14) C dX7_fresh_14 (i := (32 : Int)) (by decide) ?_
      obtain ⟨⟨k9, hp9⟩, hw⟩ := hw
      refine aw_iast (pc := 16) C dX7_fresh_16 hp9 (aw_nmH (fun h16 e9 => ?_))
      have hw := hw h16 e9
      obtain ⟨hp9, hw⟩ := hw
      refine aw_iincN (pc := 17) C dX7_fresh_17 (k := 1) (by decide) rfl (by rw [hml]; decide) hp9 (fun x1_17 e9 => ?_)
      have hw := hw x1_17 e9
      refine aw_goto (pc := 20) (tgt := 2) C dX7_fresh_20 (by decide) ?_
      obtain ⟨m9, hm9, hw⟩ := hw
      refine aw_sub [(0, vR a0), (1, vI x1_17)] ⟨rfl, rfl, trivial⟩ ?_
      exact ih_2 m9 hm9 _ _ hw
  refine aw_sub [(0, vR a0), (1, vI (0 : Int))] ⟨rfl, rfl, trivial⟩ ?_
  exact L_2 n9 _ _ hi9
theorem dX7_init_0 : decode cX7_init 0 = .ok (.aload_n 0, 1) := by decide +kernel
theorem dX7_init_1 : decode cX7_init 1 = .ok (.invokespecial 1, 3) := by decide +kernel
theorem dX7_init_4 : decode cX7_init 4 = .ok (.aload_n 0, 1) := by decide +kernel
theorem dX7_init_5 : decode cX7_init 5 = .ok (.sipush 168, 3) := by decide +kernel
theorem dX7_init_8 : decode cX7_init 8 = .ok (.newarray .int, 2) := by decide +kernel
theorem dX7_init_10 : decode cX7_init 10 = .ok (.putfield 7, 3) := by decide +kernel
theorem dX7_init_13 : decode cX7_init 13 = .ok (.aload_n 0, 1) := by decide +kernel
theorem dX7_init_14 : decode cX7_init 14 = .ok (.sipush 1008, 3) := by decide +kernel
theorem dX7_init_17 : decode cX7_init 17 = .ok (.newarray .int, 2) := by decide +kernel
theorem dX7_init_19 : decode cX7_init 19 = .ok (.putfield 13, 3) := by decide +kernel
theorem dX7_init_22 : decode cX7_init 22 = .ok (.aload_n 0, 1) := by decide +kernel
theorem dX7_init_23 : decode cX7_init 23 = .ok (.bipush 60, 2) := by decide +kernel
theorem dX7_init_25 : decode cX7_init 25 = .ok (.newarray .int, 2) := by decide +kernel
theorem dX7_init_27 : decode cX7_init 27 = .ok (.putfield 16, 3) := by decide +kernel
theorem dX7_init_30 : decode cX7_init 30 = .ok (.aload_n 0, 1) := by decide +kernel
theorem dX7_init_31 : decode cX7_init 31 = .ok (.iconst 2, 1) := by decide +kernel
theorem dX7_init_32 : decode cX7_init 32 = .ok (.newarray .int, 2) := by decide +kernel
theorem dX7_init_34 : decode cX7_init 34 = .ok (.putfield 19, 3) := by decide +kernel
theorem dX7_init_37 : decode cX7_init 37 = .ok (.aload_n 0, 1) := by decide +kernel
theorem dX7_init_38 : decode cX7_init 38 = .ok (.bipush 80, 2) := by decide +kernel
theorem dX7_init_40 : decode cX7_init 40 = .ok (.newarray .int, 2) := by decide +kernel
theorem dX7_init_42 : decode cX7_init 42 = .ok (.putfield 22, 3) := by decide +kernel
theorem dX7_init_45 : decode cX7_init 45 = .ok (.aload_n 0, 1) := by decide +kernel
theorem dX7_init_46 : decode cX7_init 46 = .ok (.bipush 80, 2) := by decide +kernel
theorem dX7_init_48 : decode cX7_init 48 = .ok (.newarray .int, 2) := by decide +kernel
theorem dX7_init_50 : decode cX7_init 50 = .ok (.putfield 25, 3) := by decide +kernel
theorem dX7_init_53 : decode cX7_init 53 = .ok (.aload_n 0, 1) := by decide +kernel
theorem dX7_init_54 : decode cX7_init 54 = .ok (.bipush 80, 2) := by decide +kernel
theorem dX7_init_56 : decode cX7_init 56 = .ok (.newarray .int, 2) := by decide +kernel
theorem dX7_init_58 : decode cX7_init 58 = .ok (.putfield 28, 3) := by decide +kernel
theorem dX7_init_61 : decode cX7_init 61 = .ok (.aload_n 0, 1) := by decide +kernel
theorem dX7_init_62 : decode cX7_init 62 = .ok (.bipush 80, 2) := by decide +kernel
theorem dX7_init_64 : decode cX7_init 64 = .ok (.newarray .int, 2) := by decide +kernel
theorem dX7_init_66 : decode cX7_init 66 = .ok (.putfield 31, 3) := by decide +kernel
theorem dX7_init_69 : decode cX7_init 69 = .ok (.aload_n 0, 1) := by decide +kernel
theorem dX7_init_70 : decode cX7_init 70 = .ok (.sipush 1681, 3) := by decide +kernel
theorem dX7_init_73 : decode cX7_init 73 = .ok (.newarray .int, 2) := by decide +kernel
theorem dX7_init_75 : decode cX7_init 75 = .ok (.putfield 34, 3) := by decide +kernel
theorem dX7_init_78 : decode cX7_init 78 = .ok (.aload_n 0, 1) := by decide +kernel
theorem dX7_init_79 : decode cX7_init 79 = .ok (.sipush 8400, 3) := by decide +kernel
theorem dX7_init_82 : decode cX7_init 82 = .ok (.newarray .int, 2) := by decide +kernel
theorem dX7_init_84 : decode cX7_init 84 = .ok (.putfield 37, 3) := by decide +kernel
theorem dX7_init_87 : decode cX7_init 87 = .ok (.aload_n 0, 1) := by decide +kernel
theorem dX7_init_88 : decode cX7_init 88 = .ok (.sipush 210, 3) := by decide +kernel
theorem dX7_init_91 : decode cX7_init 91 = .ok (.newarray .int, 2) := by decide +kernel
theorem dX7_init_93 : decode cX7_init 93 = .ok (.putfield 40, 3) := by decide +kernel
theorem dX7_init_96 : decode cX7_init 96 = .ok (.aload_n 0, 1) := by decide +kernel
theorem dX7_init_97 : decode cX7_init 97 = .ok (.bipush 40, 2) := by decide +kernel
theorem dX7_init_99 : decode cX7_init 99 = .ok (.newarray .int, 2) := by decide +kernel
theorem dX7_init_101 : decode cX7_init 101 = .ok (.putfield 43, 3) := by decide +kernel
theorem dX7_init_104 : decode cX7_init 104 = .ok (.aload_n 0, 1) := by decide +kernel
theorem dX7_init_105 : decode cX7_init 105 = .ok (.bipush 40, 2) := by decide +kernel
theorem dX7_init_107 : decode cX7_init 107 = .ok (.newarray .int, 2) := by decide +kernel
theorem dX7_init_109 : decode cX7_init 109 = .ok (.putfield 46, 3) := by decide +kernel
theorem dX7_init_112 : decode cX7_init 112 = .ok (.aload_n 0, 1) := by decide +kernel
theorem dX7_init_113 : decode cX7_init 113 = .ok (.bipush 40, 2) := by decide +kernel
theorem dX7_init_115 : decode cX7_init 115 = .ok (.newarray .int, 2) := by decide +kernel
theorem dX7_init_117 : decode cX7_init 117 = .ok (.putfield 49, 3) := by decide +kernel
theorem dX7_init_120 : decode cX7_init 120 = .ok (.aload_n 0, 1) := by decide +kernel
theorem dX7_init_121 : decode cX7_init 121 = .ok (.bipush 40, 2) := by decide +kernel
theorem dX7_init_123 : decode cX7_init 123 = .ok (.newarray .int, 2) := by decide +kernel
theorem dX7_init_125 : decode cX7_init 125 = .ok (.putfield 52, 3) := by decide +kernel
theorem dX7_init_128 : decode cX7_init 128 = .ok (.aload_n 0, 1) := by decide +kernel
theorem dX7_init_129 : decode cX7_init 129 = .ok (.bipush 80, 2) := by decide +kernel
theorem dX7_init_131 : decode cX7_init 131 = .ok (.newarray .int, 2) := by decide +kernel
theorem dX7_init_133 : decode cX7_init 133 = .ok (.putfield 55, 3) := by decide +kernel
theorem dX7_init_136 : decode cX7_init 136 = .ok (.aload_n 0, 1) := by decide +kernel
theorem dX7_init_137 : decode cX7_init 137 = .ok (.invokevirtual 58, 3) := by decide +kernel
theorem dX7_init_140 : decode cX7_init 140 = .ok (.return_, 1) := by decide +kernel
theorem pd_X7_init : (parseMethodDescriptor yX7_init.desc).map (fun d => d.parameters.length) = some 0 := by decide +kernel
def w_X7_init (zz : Nat → Nat) (a0 : Nat) (h : AH) (Q : AH → Prop) : Prop := ∀ h8 : AH, h8 = nAI h 168 → okP h8 a0 7 ∧ ∀ h10 : AH, h10 = sfR h8 a0 1 (some (hn h)) → ∀ h17 : AH, h17 = nAI h10 1008 → okP h17 a0 7 ∧ ∀ h19 : AH, h19 = sfR h17 a0 3 (some (hn h10)) → ∀ h25 : AH, h25 = nAI h19 60 → okP h25 a0 7 ∧ ∀ h27 : AH, h27 = sfR h25 a0 5 (some (hn h19)) → ∀ h32 : AH, h32 = nAI h27 2 → okP h32 a0 7 ∧ ∀ h34 : AH, h34 = sfR h32 a0 6 (some (hn h27)) → ∀ h40 : AH, h40 = nAI h34 80 → okP h40 a0 7 ∧ ∀ h42 : AH, h42 = sfR h40 a0 7 (some (hn h34)) → ∀ h48 : AH, h48 = nAI h42 80 → okP h48 a0 7 ∧ ∀ h50 : AH, h50 = sfR h48 a0 8 (some (hn h42)) → ∀ h56 : AH, h56 = nAI h50 80 → okP h56 a0 7 ∧ ∀ h58 : AH, h58 = sfR h56 a0 9 (some (hn h50)) → ∀ h64 : AH, h64 = nAI h58 80 → okP h64 a0 7 ∧ ∀ h66 : AH, h66 = sfR h64 a0 10 (some (hn h58)) → ∀ h73 : AH, h73 = nAI h66 1681 → okP h73 a0 7 ∧ ∀ h75 : AH, h75 = sfR h73 a0 11 (some (hn h66)) → ∀ h82 : AH, h82 = nAI h75 8400 → okP h82 a0 7 ∧ ∀ h84 : AH, h84 = sfR h82 a0 13 (some (hn h75)) → ∀ h91 : AH, h91 = nAI h84 210 → okP h91 a0 7 ∧ ∀ h93 : AH, h93 = sfR h91 a0 14 (some (hn h84)) → ∀ h99 : AH, h99 = nAI h93 40 → okP h99 a0 7 ∧ ∀ h101 : AH, h101 = sfR h99 a0 15 (some (hn h93)) → ∀ h107 : AH, h107 = nAI h101 40 → okP h107 a0 7 ∧ ∀ h109 : AH, h109 = sfR h107 a0 16 (some (hn h101)) → ∀ h115 : AH, h115 = nAI h109 40 → okP h115 a0 7 ∧ ∀ h117 : AH, h117 = sfR h115 a0 17 (some (hn h109)) → ∀ h123 : AH, h123 = nAI h117 40 → okP h123 a0 7 ∧ ∀ h125 : AH, h125 = sfR h123 a0 18 (some (hn h117)) → ∀ h131 : AH, h131 = nAI h125 80 → okP h131 a0 7 ∧ ∀ h133 : AH, h133 = sfR h131 a0 19 (some (hn h125)) → okA h133 a0 7 ∧ w_X7_fresh zz a0 h133 (fun  (h137 : AH) => Q h137)
set_option maxRecDepth 100000 in
set_option maxHeartbeats 4000000 in
theorem met_X7_init (G : GG) (l : Launch) : ∀ (As : List Value) (a0 : Nat) (h : AH) (Q : AH → Prop), As.map ab = List.map some ([vR a0] : List AV) → w_X7_init G.2.2 a0 h Q → Met l yX7_init (.code yX7_init cX7_init 1 none :: xTb) ({ frames := 1, cells := 16, slots := 12089, locals := 21 } : Room) (PcA G As h) (QG G (oV Q)) 16 12089 (frA G) := by
  intro As a0 h Q hA hw
  refine met_of hA (by decide) (Nat.le_of_ble_eq_true rfl) (fun p e s m args below meth c C hml hr hnm => ?_)
  unfold w_X7_init at hw
  refine aw_aload_n (pc := 0) C dX7_init_0 rfl rfl ?_
  refine aw_objInit (pc := 1) C tw787 tw26 tw27 ⟨Nat.le_of_ble_eq_true rfl, Nat.le_of_ble_eq_true rfl⟩ (Nat.le_of_ble_eq_true rfl) dX7_init_1 ?_
  refine aw_aload_n (pc := 4) C dX7_init_4 rfl rfl ?_
  refine aw_sipush (pc := 5) C dX7_init_5 (i := (168 : Int)) (by decide) ?_
  refine aw_newI (pc := 8) (n := 168) C tw60 dX7_init_8 (Nat.le_of_ble_eq_true rfl) (Nat.le_of_ble_eq_true rfl) (Nat.le_of_ble_eq_true rfl) (aw_nmH (fun h8 e9 => ?_))
  have hw := hw h8 e9
  obtain ⟨hp9, hw⟩ := hw
  refine aw_putR (pc := 10) C (ci := 7) (k := 1) ci7 (by decide) tw793 (Or.inr ⟨rfl, hnm, rfl⟩) dX7_init_10 rfl hp9 (aw_nmH (fun h10 e9 => ?_))
  have hw := hw h10 e9
  refine aw_aload_n (pc := 13) C dX7_init_13 rfl rfl ?_
  refine aw_sipush (pc := 14) C dX7_init_14 (i := (1008 : Int)) (by decide) ?_
  refine aw_newI (pc := 17) (n := 1008) C tw60 dX7_init_17 (Nat.le_of_ble_eq_true rfl) (Nat.le_of_ble_eq_true rfl) (Nat.le_of_ble_eq_true rfl) (aw_nmH (fun h17 e9 => ?_))
  have hw := hw h17 e9
  obtain ⟨hp9, hw⟩ := hw
  refine aw_putR (pc := 19) C (ci := 7) (k := 3) ci7 (by decide) tw795 (Or.inr ⟨rfl, hnm, rfl⟩) dX7_init_19 rfl hp9 (aw_nmH (fun h19 e9 => ?_))
  have hw := hw h19 e9
  refine aw_aload_n (pc := 22) C dX7_init_22 rfl rfl ?_
  refine aw_bipush (pc := 23) C dX7_init_23 (i := (60 : Int)) (by decide) ?_
  refine aw_newI (pc := 25) (n := 60) C tw60 dX7_init_25 (Nat.le_of_ble_eq_true rfl) (Nat.le_of_ble_eq_true rfl) (Nat.le_of_ble_eq_true rfl) (aw_nmH (fun h25 e9 => ?_))
  have hw := hw h25 e9
  obtain ⟨hp9, hw⟩ := hw
  refine aw_putR (pc := 27) C (ci := 7) (k := 5) ci7 (by decide) tw797 (Or.inr ⟨rfl, hnm, rfl⟩) dX7_init_27 rfl hp9 (aw_nmH (fun h27 e9 => ?_))
  have hw := hw h27 e9
  refine aw_aload_n (pc := 30) C dX7_init_30 rfl rfl ?_
  refine aw_iconst (pc := 31) C dX7_init_31 (i := (2 : Int)) (by decide) ?_
  refine aw_newI (pc := 32) (n := 2) C tw60 dX7_init_32 (Nat.le_of_ble_eq_true rfl) (Nat.le_of_ble_eq_true rfl) (Nat.le_of_ble_eq_true rfl) (aw_nmH (fun h32 e9 => ?_))
  have hw := hw h32 e9
  obtain ⟨hp9, hw⟩ := hw
  refine aw_putR (pc := 34) C (ci := 7) (k := 6) ci7 (by decide) tw798 (Or.inr ⟨rfl, hnm, rfl⟩) dX7_init_34 rfl hp9 (aw_nmH (fun h34 e9 => ?_))
  have hw := hw h34 e9
  refine aw_aload_n (pc := 37) C dX7_init_37 rfl rfl ?_
  refine aw_bipush (pc := 38) C dX7_init_38 (i := (80 : Int)) (by decide) ?_
  refine aw_newI (pc := 40) (n := 80) C tw60 dX7_init_40 (Nat.le_of_ble_eq_true rfl) (Nat.le_of_ble_eq_true rfl) (Nat.le_of_ble_eq_true rfl) (aw_nmH (fun h40 e9 => ?_))
  have hw := hw h40 e9
  obtain ⟨hp9, hw⟩ := hw
  refine aw_putR (pc := 42) C (ci := 7) (k := 7) ci7 (by decide) tw799 (Or.inr ⟨rfl, hnm, rfl⟩) dX7_init_42 rfl hp9 (aw_nmH (fun h42 e9 => ?_))
  have hw := hw h42 e9
  refine aw_aload_n (pc := 45) C dX7_init_45 rfl rfl ?_
  refine aw_bipush (pc := 46) C dX7_init_46 (i := (80 : Int)) (by decide) ?_
  refine aw_newI (pc := 48) (n := 80) C tw60 dX7_init_48 (Nat.le_of_ble_eq_true rfl) (Nat.le_of_ble_eq_true rfl) (Nat.le_of_ble_eq_true rfl) (aw_nmH (fun h48 e9 => ?_))
  have hw := hw h48 e9
  obtain ⟨hp9, hw⟩ := hw
  refine aw_putR (pc := 50) C (ci := 7) (k := 8) ci7 (by decide) tw800 (Or.inr ⟨rfl, hnm, rfl⟩) dX7_init_50 rfl hp9 (aw_nmH (fun h50 e9 => ?_))
  have hw := hw h50 e9
  refine aw_aload_n (pc := 53) C dX7_init_53 rfl rfl ?_
  refine aw_bipush (pc := 54) C dX7_init_54 (i := (80 : Int)) (by decide) ?_
  refine aw_newI (pc := 56) (n := 80) C tw60 dX7_init_56 (Nat.le_of_ble_eq_true rfl) (Nat.le_of_ble_eq_true rfl) (Nat.le_of_ble_eq_true rfl) (aw_nmH (fun h56 e9 => ?_))
  have hw := hw h56 e9
  obtain ⟨hp9, hw⟩ := hw
  refine aw_putR (pc := 58) C (ci := 7) (k := 9) ci7 (by decide) tw801 (Or.inr ⟨rfl, hnm, rfl⟩) dX7_init_58 rfl hp9 (aw_nmH (fun h58 e9 => ?_))
  have hw := hw h58 e9
  refine aw_aload_n (pc := 61) C dX7_init_61 rfl rfl ?_
  refine aw_bipush (pc := 62) C dX7_init_62 (i := (80 : Int)) (by decide) ?_
  refine aw_newI (pc := 64) (n := 80) C tw60 dX7_init_64 (Nat.le_of_ble_eq_true rfl) (Nat.le_of_ble_eq_true rfl) (Nat.le_of_ble_eq_true rfl) (aw_nmH (fun h64 e9 => ?_))
  have hw := hw h64 e9
  obtain ⟨hp9, hw⟩ := hw
  refine aw_putR (pc := 66) C (ci := 7) (k := 10) ci7 (by decide) tw802 (Or.inr ⟨rfl, hnm, rfl⟩) dX7_init_66 rfl hp9 (aw_nmH (fun h66 e9 => ?_))
  have hw := hw h66 e9
  refine aw_aload_n (pc := 69) C dX7_init_69 rfl rfl ?_
  refine aw_sipush (pc := 70) C dX7_init_70 (i := (1681 : Int)) (by decide) ?_
  refine aw_newI (pc := 73) (n := 1681) C tw60 dX7_init_73 (Nat.le_of_ble_eq_true rfl) (Nat.le_of_ble_eq_true rfl) (Nat.le_of_ble_eq_true rfl) (aw_nmH (fun h73 e9 => ?_))
  have hw := hw h73 e9
  obtain ⟨hp9, hw⟩ := hw
  refine aw_putR (pc := 75) C (ci := 7) (k := 11) ci7 (by decide) tw803 (Or.inr ⟨rfl, hnm, rfl⟩) dX7_init_75 rfl hp9 (aw_nmH (fun h75 e9 => ?_))
  have hw := hw h75 e9
  refine aw_aload_n (pc := 78) C dX7_init_78 rfl rfl ?_
  refine aw_sipush (pc := 79) C dX7_init_79 (i := (8400 : Int)) (by decide) ?_
  refine aw_newI (pc := 82) (n := 8400) C tw60 dX7_init_82 (Nat.le_of_ble_eq_true rfl) (Nat.le_of_ble_eq_true rfl) (Nat.le_of_ble_eq_true rfl) (aw_nmH (fun h82 e9 => ?_))
  have hw := hw h82 e9
  obtain ⟨hp9, hw⟩ := hw
  refine aw_putR (pc := 84) C (ci := 7) (k := 13) ci7 (by decide) tw805 (Or.inr ⟨rfl, hnm, rfl⟩) dX7_init_84 rfl hp9 (aw_nmH (fun h84 e9 => ?_))
  have hw := hw h84 e9
  refine aw_aload_n (pc := 87) C dX7_init_87 rfl rfl ?_
  refine aw_sipush (pc := 88) C dX7_init_88 (i := (210 : Int)) (by decide) ?_
  refine aw_newI (pc := 91) (n := 210) C tw60 dX7_init_91 (Nat.le_of_ble_eq_true rfl) (Nat.le_of_ble_eq_true rfl) (Nat.le_of_ble_eq_true rfl) (aw_nmH (fun h91 e9 => ?_))
  have hw := hw h91 e9
  obtain ⟨hp9, hw⟩ := hw
  refine aw_putR (pc := 93) C (ci := 7) (k := 14) ci7 (by decide) tw806 (Or.inr ⟨rfl, hnm, rfl⟩) dX7_init_93 rfl hp9 (aw_nmH (fun h93 e9 => ?_))
  have hw := hw h93 e9
  refine aw_aload_n (pc := 96) C dX7_init_96 rfl rfl ?_
  refine aw_bipush (pc := 97) C dX7_init_97 (i := (40 : Int)) (by decide) ?_
  refine aw_newI (pc := 99) (n := 40) C tw60 dX7_init_99 (Nat.le_of_ble_eq_true rfl) (Nat.le_of_ble_eq_true rfl) (Nat.le_of_ble_eq_true rfl) (aw_nmH (fun h99 e9 => ?_))
  have hw := hw h99 e9
  obtain ⟨hp9, hw⟩ := hw
  refine aw_putR (pc := 101) C (ci := 7) (k := 15) ci7 (by decide) tw807 (Or.inr ⟨rfl, hnm, rfl⟩) dX7_init_101 rfl hp9 (aw_nmH (fun h101 e9 => ?_))
  have hw := hw h101 e9
  refine aw_aload_n (pc := 104) C dX7_init_104 rfl rfl ?_
  refine aw_bipush (pc := 105) C dX7_init_105 (i := (40 : Int)) (by decide) ?_
  refine aw_newI (pc := 107) (n := 40) C tw60 dX7_init_107 (Nat.le_of_ble_eq_true rfl) (Nat.le_of_ble_eq_true rfl) (Nat.le_of_ble_eq_true rfl) (aw_nmH (fun h107 e9 => ?_))
  have hw := hw h107 e9
  obtain ⟨hp9, hw⟩ := hw
  refine aw_putR (pc := 109) C (ci := 7) (k := 16) ci7 (by decide) tw808 (Or.inr ⟨rfl, hnm, rfl⟩) dX7_init_109 rfl hp9 (aw_nmH (fun h109 e9 => ?_))
  have hw := hw h109 e9
  refine aw_aload_n (pc := 112) C dX7_init_112 rfl rfl ?_
  refine aw_bipush (pc := 113) C dX7_init_113 (i := (40 : Int)) (by decide) ?_
  refine aw_newI (pc := 115) (n := 40) C tw60 dX7_init_115 (Nat.le_of_ble_eq_true rfl) (Nat.le_of_ble_eq_true rfl) (Nat.le_of_ble_eq_true rfl) (aw_nmH (fun h115 e9 => ?_))
  have hw := hw h115 e9
  obtain ⟨hp9, hw⟩ := hw
  refine aw_putR (pc := 117) C (ci := 7) (k := 17) ci7 (by decide) tw809 (Or.inr ⟨rfl, hnm, rfl⟩) dX7_init_117 rfl hp9 (aw_nmH (fun h117 e9 => ?_))
  have hw := hw h117 e9
  refine aw_aload_n (pc := 120) C dX7_init_120 rfl rfl ?_
  refine aw_bipush (pc := 121) C dX7_init_121 (i := (40 : Int)) (by decide) ?_
  refine aw_newI (pc := 123) (n := 40) C tw60 dX7_init_123 (Nat.le_of_ble_eq_true rfl) (Nat.le_of_ble_eq_true rfl) (Nat.le_of_ble_eq_true rfl) (aw_nmH (fun h123 e9 => ?_))
  have hw := hw h123 e9
  obtain ⟨hp9, hw⟩ := hw
  refine aw_putR (pc := 125) C (ci := 7) (k := 18) ci7 (by decide) tw810 (Or.inr ⟨rfl, hnm, rfl⟩) dX7_init_125 rfl hp9 (aw_nmH (fun h125 e9 => ?_))
  have hw := hw h125 e9
  refine aw_aload_n (pc := 128) C dX7_init_128 rfl rfl ?_
  refine aw_bipush (pc := 129) C dX7_init_129 (i := (80 : Int)) (by decide) ?_
  refine aw_newI (pc := 131) (n := 80) C tw60 dX7_init_131 (Nat.le_of_ble_eq_true rfl) (Nat.le_of_ble_eq_true rfl) (Nat.le_of_ble_eq_true rfl) (aw_nmH (fun h131 e9 => ?_))
  have hw := hw h131 e9
  obtain ⟨hp9, hw⟩ := hw
  refine aw_putR (pc := 133) C (ci := 7) (k := 19) ci7 (by decide) tw811 (Or.inr ⟨rfl, hnm, rfl⟩) dX7_init_133 rfl hp9 (aw_nmH (fun h133 e9 => ?_))
  have hw := hw h133 e9
  refine aw_aload_n (pc := 136) C dX7_init_136 rfl rfl ?_
  obtain ⟨hp9, hw⟩ := hw
  refine aw_callV (pc := 137) (as := []) C ci7 (fun As hA => met_X7_fresh G l As a0 _ _ hA hw) tw788 tw790 (tbp 34 (n := 21) (by decide +kernel)) tw10 tw791 ⟨rfl, rfl⟩ ⟨rfl, by decide, by decide, pd_X7_fresh⟩ ⟨Nat.le_of_ble_eq_true rfl, Nat.le_of_ble_eq_true rfl⟩ ⟨(Nat.le_of_ble_eq_true rfl), (Nat.le_of_ble_eq_true rfl)⟩ (Nat.le_of_ble_eq_true rfl) dX7_init_137 rfl hp9 (fun v9 h137 hq9 => ?_)
  obtain ⟨rfl, hw⟩ := hq9
  exact aw_vret (pc := 140) C hr dX7_init_140 ⟨Nat.le_of_ble_eq_true rfl, Nat.le_of_ble_eq_true rfl⟩ ⟨rfl, hw⟩
theorem dX7_thrown_0 : decode cX7_thrown 0 = .ok (.aload_n 0, 1) := by decide +kernel
theorem dX7_thrown_1 : decode cX7_thrown 1 = .ok (.getfield 61, 3) := by decide +kernel
theorem dX7_thrown_4 : decode cX7_thrown 4 = .ok (.ireturn, 1) := by decide +kernel
theorem pd_X7_thrown : (parseMethodDescriptor yX7_thrown.desc).map (fun d => d.parameters.length) = some 0 := by decide +kernel
def w_X7_thrown (zz : Nat → Nat) (a0 : Nat) (h : AH) (Q : Int → AH → Prop) : Prop := okA h a0 7 ∧ Q (hfI h a0 0) h
set_option maxRecDepth 100000 in
set_option maxHeartbeats 4000000 in
theorem met_X7_thrown (G : GG) (l : Launch) : ∀ (As : List Value) (a0 : Nat) (h : AH) (Q : Int → AH → Prop), As.map ab = List.map some ([vR a0] : List AV) → w_X7_thrown G.2.2 a0 h Q → Met l yX7_thrown (.code yX7_thrown cX7_thrown 1 (some .int) :: xTb) ({ frames := 0, cells := 0, slots := 0, locals := 0 } : Room) (PcA G As h) (QG G (oI Q)) 0 0 (frA G) := by
  intro As a0 h Q hA hw
  refine met_of hA (by decide) (Nat.le_of_ble_eq_true rfl) (fun p e s m args below meth c C hml hr hnm => ?_)
  unfold w_X7_thrown at hw
  refine aw_aload_n (pc := 0) C dX7_thrown_0 rfl rfl ?_
  obtain ⟨hp9, hw⟩ := hw
  refine aw_getI (pc := 1) C (ci := 7) (k := 0) ci7 (by decide) tw792 dX7_thrown_1 rfl hp9 ?_
  exact aw_iret (pc := 4) C hr dX7_thrown_4 ⟨Nat.le_of_ble_eq_true rfl, Nat.le_of_ble_eq_true rfl⟩ ⟨_, rfl, hw⟩
theorem dX7_within_0 : decode cX7_within 0 = .ok (.iload_n 0, 1) := by decide +kernel
theorem dX7_within_1 : decode cX7_within 1 = .ok (.iload_n 1, 1) := by decide +kernel
theorem dX7_within_2 : decode cX7_within 2 = .ok (.if_icmp .lt 12, 3) := by decide +kernel
theorem dX7_within_5 : decode cX7_within 5 = .ok (.iload_n 0, 1) := by decide +kernel
theorem dX7_within_6 : decode cX7_within 6 = .ok (.iload_n 2, 1) := by decide +kernel
theorem dX7_within_7 : decode cX7_within 7 = .ok (.if_icmp .gt 7, 3) := by decide +kernel
theorem dX7_within_10 : decode cX7_within 10 = .ok (.iconst 1, 1) := by decide +kernel
theorem dX7_within_11 : decode cX7_within 11 = .ok (.goto 4, 3) := by decide +kernel
theorem dX7_within_14 : decode cX7_within 14 = .ok (.iconst 0, 1) := by decide +kernel
theorem dX7_within_15 : decode cX7_within 15 = .ok (.ireturn, 1) := by decide +kernel
theorem pd_X7_within : (parseMethodDescriptor yX7_within.desc).map (fun d => d.parameters.length) = some 3 := by decide +kernel
def w_X7_within (zz : Nat → Nat) (a0 : Int) (a1 : Int) (a2 : Int) (h : AH) (Q : Int → AH → Prop) : Prop := jn (fun (t0_15 : Int) (h_15 : AH) => (t0_15 = 0 ∨ t0_15 = 1) ∧ Q t0_15 h_15) (fun k_15 : Int → AH → Prop => jn (fun  (h_14 : AH) => k_15 (0 : Int) h_14) (fun k_14 : AH → Prop => ((a0 < a1) → k_14  h) ∧ ((¬ (a0 < a1)) → ((a2 < a0) → k_14  h) ∧ ((¬ (a2 < a0)) → k_15 (1 : Int) h))))
set_option maxRecDepth 100000 in
set_option maxHeartbeats 4000000 in
theorem met_X7_within (G : GG) (l : Launch) : ∀ (As : List Value) (a0 : Int) (a1 : Int) (a2 : Int) (h : AH) (Q : Int → AH → Prop), As.map ab = List.map some ([vI a0, vI a1, vI a2] : List AV) → w_X7_within G.2.2 a0 a1 a2 h Q → Met l yX7_within (.code yX7_within cX7_within 3 (some .boolean) :: xTb) ({ frames := 0, cells := 0, slots := 0, locals := 0 } : Room) (PcA G As h) (QG G (oI Q)) 0 0 (frA G) := by
  intro As a0 a1 a2 h Q hA hw
  refine met_of hA (by decide) (Nat.le_of_ble_eq_true rfl) (fun p e s m args below meth c C hml hr hnm => ?_)
  unfold w_X7_within at hw
  refine aw_iload_n (pc := 0) C dX7_within_0 rfl rfl ?_
  refine aw_iload_n (pc := 1) C dX7_within_1 rfl rfl ?_
  obtain ⟨k_15, hk_15, hw⟩ := jn_out hw
  have J_15 : ∀ (t0_15 : Int) (h_15 : AH), k_15 t0_15 h_15 → AW G p l e ({ frames := 0, cells := 0, slots := 0, locals := 0 } : Room) s m args below meth c 0 0 (MQ below (QG G (oI Q)) args s 0 0 (frA G)) 15 (eOf []) [vI t0_15] h_15 := by
    intro t0_15 h_15 hw
    rw [hk_15] at hw
    obtain ⟨hp9, hw⟩ := hw
    exact aw_zret (pc := 15) C hr dX7_within_15 ⟨Nat.le_of_ble_eq_true rfl, Nat.le_of_ble_eq_true rfl⟩ hp9 ⟨_, rfl, hw⟩
  obtain ⟨k_14, hk_14, hw⟩ := jn_out hw
  have J_14 : ∀  (h_14 : AH), k_14  h_14 → AW G p l e ({ frames := 0, cells := 0, slots := 0, locals := 0 } : Room) s m args below meth c 0 0 (MQ below (QG G (oI Q)) args s 0 0 (frA G)) 14 (eOf []) [] h_14 := by
    intro  h_14 hw
    rw [hk_14] at hw
    refine aw_iconst (pc := 14) C dX7_within_14 (i := (0 : Int)) (by decide) ?_
    refine aw_sub [] trivial ?_
    exact J_15 _ _ hw
  refine aw_icmp_lt (pc := 2) (tgt := 14) C dX7_within_2 (by decide) (fun hc9 => ?_) (fun hc9 => ?_)
  · have hw := hw.1 hc9
    refine aw_sub [] trivial ?_
    exact J_14  _ hw
  · have hw := hw.2 hc9
    refine aw_iload_n (pc := 5) C dX7_within_5 rfl rfl ?_
    refine aw_iload_n (pc := 6) C dX7_within_6 rfl rfl ?_
    refine aw_icmp_gt (pc := 7) (tgt := 14) C dX7_within_7 (by decide) (fun hc9 => ?_) (fun hc9 => ?_)
    · have hw := hw.1 hc9
      refine aw_sub [] trivial ?_
      exact J_14  _ hw
    · have hw := hw.2 hc9
      refine aw_iconst (pc := 10) C dX7_within_10 (i := (1 : Int)) (by decide) ?_
      refine aw_goto (pc := 11) (tgt := 15) C dX7_within_11 (by decide) ?_
      refine aw_sub [] trivial ?_
      exact J_15 _ _ hw
theorem dX7_of_0 : decode cX7_of 0 = .ok (.aload_n 0, 1) := by decide +kernel
theorem dX7_of_1 : decode cX7_of 1 = .ok (.getfield 7, 3) := by decide +kernel
theorem dX7_of_4 : decode cX7_of 4 = .ok (.sipush 160, 3) := by decide +kernel
theorem dX7_of_7 : decode cX7_of 7 = .ok (.iload_n 1, 1) := by decide +kernel
theorem dX7_of_8 : decode cX7_of 8 = .ok (.iadd, 1) := by decide +kernel
theorem dX7_of_9 : decode cX7_of 9 = .ok (.iaload, 1) := by decide +kernel
theorem dX7_of_10 : decode cX7_of 10 = .ok (.ireturn, 1) := by decide +kernel
theorem pd_X7_of : (parseMethodDescriptor yX7_of.desc).map (fun d => d.parameters.length) = some 1 := by decide +kernel
def w_X7_of (zz : Nat → Nat) (a0 : Nat) (a1 : Int) (h : AH) (Q : Int → AH → Prop) : Prop := okA h a0 7 ∧ ∃ b1 : Nat, hfR h a0 1 = some b1 ∧ inR ((160 : Int) + a1) ∧ okI h b1 ((160 : Int) + a1) ∧ Q (haI h b1 ((160 : Int) + a1)) h
set_option maxRecDepth 100000 in
set_option maxHeartbeats 4000000 in
theorem met_X7_of (G : GG) (l : Launch) : ∀ (As : List Value) (a0 : Nat) (a1 : Int) (h : AH) (Q : Int → AH → Prop), As.map ab = List.map some ([vR a0, vI a1] : List AV) → w_X7_of G.2.2 a0 a1 h Q → Met l yX7_of (.code yX7_of cX7_of 2 (some .int) :: xTb) ({ frames := 0, cells := 0, slots := 0, locals := 0 } : Room) (PcA G As h) (QG G (oI Q)) 0 0 (frA G) := by
  intro As a0 a1 h Q hA hw
  refine met_of hA (by decide) (Nat.le_of_ble_eq_true rfl) (fun p e s m args below meth c C hml hr hnm => ?_)
  unfold w_X7_of at hw
  refine aw_aload_n (pc := 0) C dX7_of_0 rfl rfl ?_
  obtain ⟨hp9, b1, hb9, hw⟩ := hw
  refine aw_getR (pc := 1) C (ci := 7) (k := 1) ci7 (by decide) tw793 dX7_of_1 rfl hp9 hb9 ?_
  refine aw_sipush (pc := 4) C dX7_of_4 (i := (160 : Int)) (by decide) ?_
  refine aw_iload_n (pc := 7) C dX7_of_7 rfl rfl ?_
  obtain ⟨hp9, hw⟩ := hw
  refine aw_iadd (pc := 8) C dX7_of_8 hp9 ?_
  obtain ⟨⟨k9, hp9⟩, hw⟩ := hw
  refine aw_iald (pc := 9) C dX7_of_9 hp9 ?_
  exact aw_iret (pc := 10) C hr dX7_of_10 ⟨Nat.le_of_ble_eq_true rfl, Nat.le_of_ble_eq_true rfl⟩ ⟨_, rfl, hw⟩
theorem dX7_isLetter_0 : decode cX7_isLetter 0 = .ok (.iload_n 0, 1) := by decide +kernel
theorem dX7_isLetter_1 : decode cX7_isLetter 1 = .ok (.bipush 97, 2) := by decide +kernel
theorem dX7_isLetter_3 : decode cX7_isLetter 3 = .ok (.bipush 122, 2) := by decide +kernel
theorem dX7_isLetter_5 : decode cX7_isLetter 5 = .ok (.invokestatic 65, 3) := by decide +kernel
theorem dX7_isLetter_8 : decode cX7_isLetter 8 = .ok (.ireturn, 1) := by decide +kernel
theorem pd_X7_isLetter : (parseMethodDescriptor yX7_isLetter.desc).map (fun d => d.parameters.length) = some 1 := by decide +kernel
def w_X7_isLetter (zz : Nat → Nat) (a0 : Int) (h : AH) (Q : Int → AH → Prop) : Prop := w_X7_within zz a0 (97 : Int) (122 : Int) h (fun (r5 : Int) (h5 : AH) => (r5 = 0 ∨ r5 = 1) ∧ Q r5 h5)
set_option maxRecDepth 100000 in
set_option maxHeartbeats 4000000 in
theorem met_X7_isLetter (G : GG) (l : Launch) : ∀ (As : List Value) (a0 : Int) (h : AH) (Q : Int → AH → Prop), As.map ab = List.map some ([vI a0] : List AV) → w_X7_isLetter G.2.2 a0 h Q → Met l yX7_isLetter (.code yX7_isLetter cX7_isLetter 1 (some .boolean) :: xTb) ({ frames := 1, cells := 0, slots := 0, locals := 22 } : Room) (PcA G As h) (QG G (oI Q)) 0 0 (frA G) := by
  intro As a0 h Q hA hw
  refine met_of hA (by decide) (Nat.le_of_ble_eq_true rfl) (fun p e s m args below meth c C hml hr hnm => ?_)
  unfold w_X7_isLetter at hw
  refine aw_iload_n (pc := 0) C dX7_isLetter_0 rfl rfl ?_
  refine aw_bipush (pc := 1) C dX7_isLetter_1 (i := (97 : Int)) (by decide) ?_
  refine aw_bipush (pc := 3) C dX7_isLetter_3 (i := (122 : Int)) (by decide) ?_
  refine aw_callS (pc := 5) (as := [vI a0, vI (97 : Int), vI (122 : Int)]) C (fun As hA => met_X7_within G l As a0 (97 : Int) (122 : Int) _ _ hA hw) tw883 tw884 tw10 tw885 ⟨rfl, rfl⟩ ⟨by decide, by decide, pd_X7_within⟩ ⟨Nat.le_of_ble_eq_true rfl, Nat.le_of_ble_eq_true rfl⟩ ⟨Nat.zero_le _, Nat.zero_le _⟩ (Nat.le_of_ble_eq_true rfl) dX7_isLetter_5 rfl (fun v9 h5 hq9 => ?_)
  obtain ⟨r5, rfl, hw⟩ := hq9
  obtain ⟨hp9, hw⟩ := hw
  exact aw_zret (pc := 8) C hr dX7_isLetter_8 ⟨Nat.le_of_ble_eq_true rfl, Nat.le_of_ble_eq_true rfl⟩ hp9 ⟨_, rfl, hw⟩
theorem dX7_lettersOf_0 : decode cX7_lettersOf 0 = .ok (.iconst 0, 1) := by decide +kernel
theorem dX7_lettersOf_1 : decode cX7_lettersOf 1 = .ok (.istore_n 2, 1) := by decide +kernel
theorem dX7_lettersOf_2 : decode cX7_lettersOf 2 = .ok (.iconst 0, 1) := by decide +kernel
theorem dX7_lettersOf_3 : decode cX7_lettersOf 3 = .ok (.istore_n 3, 1) := by decide +kernel
theorem dX7_lettersOf_4 : decode cX7_lettersOf 4 = .ok (.iload_n 3, 1) := by decide +kernel
theorem dX7_lettersOf_5 : decode cX7_lettersOf 5 = .ok (.bipush 80, 2) := by decide +kernel
theorem dX7_lettersOf_7 : decode cX7_lettersOf 7 = .ok (.if_icmp .ge 33, 3) := by decide +kernel
theorem dX7_lettersOf_10 : decode cX7_lettersOf 10 = .ok (.iload_n 2, 1) := by decide +kernel
theorem dX7_lettersOf_11 : decode cX7_lettersOf 11 = .ok (.aload_n 0, 1) := by decide +kernel
theorem dX7_lettersOf_12 : decode cX7_lettersOf 12 = .ok (.getfield 7, 3) := by decide +kernel
theorem dX7_lettersOf_15 : decode cX7_lettersOf 15 = .ok (.bipush 80, 2) := by decide +kernel
theorem dX7_lettersOf_17 : decode cX7_lettersOf 17 = .ok (.iload_n 1, 1) := by decide +kernel
theorem dX7_lettersOf_18 : decode cX7_lettersOf 18 = .ok (.imul, 1) := by decide +kernel
theorem dX7_lettersOf_19 : decode cX7_lettersOf 19 = .ok (.iload_n 3, 1) := by decide +kernel
theorem dX7_lettersOf_20 : decode cX7_lettersOf 20 = .ok (.iadd, 1) := by decide +kernel
theorem dX7_lettersOf_21 : decode cX7_lettersOf 21 = .ok (.iaload, 1) := by decide +kernel
theorem dX7_lettersOf_22 : decode cX7_lettersOf 22 = .ok (.bipush 32, 2) := by decide +kernel
theorem dX7_lettersOf_24 : decode cX7_lettersOf 24 = .ok (.if_icmp .ne 7, 3) := by decide +kernel
theorem dX7_lettersOf_27 : decode cX7_lettersOf 27 = .ok (.iconst 0, 1) := by decide +kernel
theorem dX7_lettersOf_28 : decode cX7_lettersOf 28 = .ok (.goto 4, 3) := by decide +kernel
theorem dX7_lettersOf_31 : decode cX7_lettersOf 31 = .ok (.iconst 1, 1) := by decide +kernel
theorem dX7_lettersOf_32 : decode cX7_lettersOf 32 = .ok (.iadd, 1) := by decide +kernel
theorem dX7_lettersOf_33 : decode cX7_lettersOf 33 = .ok (.istore_n 2, 1) := by decide +kernel
theorem dX7_lettersOf_34 : decode cX7_lettersOf 34 = .ok (.iinc 3 1, 3) := by decide +kernel
theorem dX7_lettersOf_37 : decode cX7_lettersOf 37 = .ok (.goto (-33), 3) := by decide +kernel
theorem dX7_lettersOf_40 : decode cX7_lettersOf 40 = .ok (.iload_n 2, 1) := by decide +kernel
theorem dX7_lettersOf_41 : decode cX7_lettersOf 41 = .ok (.ireturn, 1) := by decide +kernel
theorem pd_X7_lettersOf : (parseMethodDescriptor yX7_lettersOf.desc).map (fun d => d.parameters.length) = some 1 := by decide +kernel
def w_X7_lettersOf (zz : Nat → Nat) (a0 : Nat) (a1 : Int) (h : AH) (Q : Int → AH → Prop) : Prop := ∃ I_4 : Nat → Int → Int → AH → Prop, (∃ n, I_4 n (0 : Int) (0 : Int) h) ∧ ∀ (n_4 : Nat) (x2_4 : Int) (x3_4 : Int) (h_4 : AH), I_4 n_4 x2_4 x3_4 h_4 → ((((80 : Int) ≤ x3_4) → Q x2_4 h_4) ∧ ((¬ ((80 : Int) ≤ x3_4)) → okA h_4 a0 7 ∧ ∃ b12 : Nat, hfR h_4 a0 1 = some b12 ∧ inR ((80 : Int) * a1) ∧ inR (((80 : Int) * a1) + x3_4) ∧ okI h_4 b12 (((80 : Int) * a1) + x3_4) ∧ jn (fun (t1_32 : Int) (h_32 : AH) => inR (x2_4 + t1_32) ∧ ∀ x2_33 : Int, x2_33 = (x2_4 + t1_32) → inR (x3_4 + 1) ∧ ∀ x3_34 : Int, x3_34 = (x3_4 + 1) → ∃ m, m < n_4 ∧ I_4 m x2_33 x3_34 h_32) (fun k_32 : Int → AH → Prop => ((¬ (haI h_4 b12 (((80 : Int) * a1) + x3_4)) = (32 : Int)) → k_32 (1 : Int) h_4) ∧ (((haI h_4 b12 (((80 : Int) * a1) + x3_4)) = (32 : Int)) → k_32 (0 : Int) h_4))))
set_option maxRecDepth 100000 in
set_option maxHeartbeats 4000000 in
theorem met_X7_lettersOf (G : GG) (l : Launch) : ∀ (As : List Value) (a0 : Nat) (a1 : Int) (h : AH) (Q : Int → AH → Prop), As.map ab = List.map some ([vR a0, vI a1] : List AV) → w_X7_lettersOf G.2.2 a0 a1 h Q → Met l yX7_lettersOf (.code yX7_lettersOf cX7_lettersOf 4 (some .int) :: xTb) ({ frames := 0, cells := 0, slots := 0, locals := 0 } : Room) (PcA G As h) (QG G (oI Q)) 0 0 (frA G) := by
  intro As a0 a1 h Q hA hw
  refine met_of hA (by decide) (Nat.le_of_ble_eq_true rfl) (fun p e s m args below meth c C hml hr hnm => ?_)
  unfold w_X7_lettersOf at hw
  refine aw_iconst (pc := 0) C dX7_lettersOf_0 (i := (0 : Int)) (by decide) ?_
  refine aw_istore_n (pc := 1) C dX7_lettersOf_1 rfl (by rw [hml]; decide) ?_
  refine aw_iconst (pc := 2) C dX7_lettersOf_2 (i := (0 : Int)) (by decide) ?_
  refine aw_istore_n (pc := 3) C dX7_lettersOf_3 rfl (by rw [hml]; decide) ?_
  obtain ⟨I_4, ⟨n9, hi9⟩, hst9⟩ := hw
  have L_4 : ∀ (n_4 : Nat) (x2_4 : Int) (x3_4 : Int) (h_4 : AH), I_4 n_4 x2_4 x3_4 h_4 → AW G p l e ({ frames := 0, cells := 0, slots := 0, locals := 0 } : Room) s m args below meth c 0 0 (MQ below (QG G (oI Q)) args s 0 0 (frA G)) 4 (eOf [(0, vR a0), (1, vI a1), (2, vI x2_4), (3, vI x3_4)]) [] h_4 := by
    intro n_4
    induction n_4 using Nat.strongRecOn with
    | _ n_4 ih_4 =>
    intro x2_4 x3_4 h_4 hi9
    have hw := hst9 n_4 x2_4 x3_4 h_4 hi9
    refine aw_iload_n (pc := 4) C dX7_lettersOf_4 rfl rfl ?_
    refine aw_bipush (pc := 5) C dX7_lettersOf_5 (i := (80 : Int)) (by decide) ?_
    refine aw_icmp_ge (pc := 7) (tgt := 40) C dX7_lettersOf_7 (by decide) (fun hc9 => ?_) (fun hc9 => ?_)
    · have hw := hw.1 hc9
      refine aw_iload_n (pc := 40) C dX7_lettersOf_40 rfl rfl ?_
      exact aw_iret (pc := 41) C hr dX7_lettersOf_41 ⟨Nat.le_of_ble_eq_true rfl, Nat.le_of_ble_eq_true rfl⟩ ⟨_, rfl, hw⟩
    · have hw := hw.2 hc9
      refine aw_iload_n (pc := 10) C dX7_lettersOf_10 rfl rfl ?_
      refine aw_aload_n (pc := 11) C dX7_lettersOf_11 rfl rfl ?_
      obtain ⟨hp9, b12, hb9, hw⟩ := hw
      refine aw_getR (pc := 12) C (ci := 7) (k := 1) ci7 (by decide) tw793 dX7_lettersOf_12 rfl hp9 hb9 ?_
      refine aw_bipush (pc := 15) C dX7_lettersOf_15 (i := (80 : Int)) (by decide) ?_
      refine aw_iload_n (pc := 17) C dX7_lettersOf_17 rfl rfl ?_
      obtain ⟨hp9, hw⟩ := hw
      refine aw_imul (pc := 18) C dX7_lettersOf_18 hp9 ?_
      refine aw_iload_n (pc := 19) C dX7_lettersOf_19 rfl rfl ?_
      obtain ⟨hp9, hw⟩ := hw
      refine aw_iadd (pc := 20) C dX7_lettersOf_20 hp9 ?_
      obtain ⟨⟨k9, hp9⟩, hw⟩ := hw
      refine aw_iald (pc := 21) C dX7_lettersOf_21 hp9 ?_
      refine aw_bipush (pc := 22) C dX7_lettersOf_22 (i := (32 : Int)) (by decide) ?_
      obtain ⟨k_32, hk_32, hw⟩ := jn_out hw
      have J_32 : ∀ (t1_32 : Int) (h_32 : AH), k_32 t1_32 h_32 → AW G p l e ({ frames := 0, cells := 0, slots := 0, locals := 0 } : Room) s m args below meth c 0 0 (MQ below (QG G (oI Q)) args s 0 0 (frA G)) 32 (eOf [(0, vR a0), (1, vI a1), (3, vI x3_4)]) [vI t1_32, vI x2_4] h_32 := by
        intro t1_32 h_32 hw
        rw [hk_32] at hw
        obtain ⟨hp9, hw⟩ := hw
        refine aw_iadd (pc := 32) C dX7_lettersOf_32 hp9 ?_
        refine aw_nmI (fun x2_33 e9 => ?_)
        have hw := hw x2_33 e9
        refine aw_istore_n (pc := 33) C dX7_lettersOf_33 rfl (by rw [hml]; decide) ?_
        obtain ⟨hp9, hw⟩ := hw
        refine aw_iincN (pc := 34) C dX7_lettersOf_34 (k := 1) (by decide) rfl (by rw [hml]; decide) hp9 (fun x3_34 e9 => ?_)
        have hw := hw x3_34 e9
        refine aw_goto (pc := 37) (tgt := 4) C dX7_lettersOf_37 (by decide) ?_
        obtain ⟨m9, hm9, hw⟩ := hw
        refine aw_sub [(0, vR a0), (1, vI a1), (2, vI x2_33), (3, vI x3_34)] ⟨rfl, rfl, rfl, rfl, trivial⟩ ?_
        exact ih_4 m9 hm9 _ _ _ hw
      refine aw_icmp_ne (pc := 24) (tgt := 31) C dX7_lettersOf_24 (by decide) (fun hc9 => ?_) (fun hc9 => ?_)
      · have hw := hw.1 hc9
        refine aw_iconst (pc := 31) C dX7_lettersOf_31 (i := (1 : Int)) (by decide) ?_
        refine aw_sub [(0, vR a0), (1, vI a1), (3, vI x3_4)] ⟨rfl, rfl, rfl, trivial⟩ ?_
        exact J_32 _ _ hw
      · have hw := hw.2 hc9
        refine aw_iconst (pc := 27) C dX7_lettersOf_27 (i := (0 : Int)) (by decide) ?_
        refine aw_goto (pc := 28) (tgt := 32) C dX7_lettersOf_28 (by decide) ?_
        refine aw_sub [(0, vR a0), (1, vI a1), (3, vI x3_4)] ⟨rfl, rfl, rfl, trivial⟩ ?_
        exact J_32 _ _ hw
  refine aw_sub [(0, vR a0), (1, vI a1), (2, vI (0 : Int)), (3, vI (0 : Int))] ⟨rfl, rfl, rfl, rfl, trivial⟩ ?_
  exact L_4 n9 _ _ _ hi9
theorem dX7_layLetters_0 : decode cX7_layLetters 0 = .ok (.iconst 0, 1) := by decide +kernel
theorem dX7_layLetters_1 : decode cX7_layLetters 1 = .ok (.istore_n 1, 1) := by decide +kernel
theorem dX7_layLetters_2 : decode cX7_layLetters 2 = .ok (.iload_n 1, 1) := by decide +kernel
theorem dX7_layLetters_3 : decode cX7_layLetters 3 = .ok (.iconst 2, 1) := by decide +kernel
theorem dX7_layLetters_4 : decode cX7_layLetters 4 = .ok (.if_icmp .ge 114, 3) := by decide +kernel
theorem dX7_layLetters_7 : decode cX7_layLetters 7 = .ok (.aload_n 0, 1) := by decide +kernel
theorem dX7_layLetters_8 : decode cX7_layLetters 8 = .ok (.getfield 19, 3) := by decide +kernel
theorem dX7_layLetters_11 : decode cX7_layLetters 11 = .ok (.iload_n 1, 1) := by decide +kernel
theorem dX7_layLetters_12 : decode cX7_layLetters 12 = .ok (.iconst 0, 1) := by decide +kernel
theorem dX7_layLetters_13 : decode cX7_layLetters 13 = .ok (.iastore, 1) := by decide +kernel
theorem dX7_layLetters_14 : decode cX7_layLetters 14 = .ok (.iconst 0, 1) := by decide +kernel
theorem dX7_layLetters_15 : decode cX7_layLetters 15 = .ok (.istore_n 2, 1) := by decide +kernel
theorem dX7_layLetters_16 : decode cX7_layLetters 16 = .ok (.iload_n 2, 1) := by decide +kernel
theorem dX7_layLetters_17 : decode cX7_layLetters 17 = .ok (.bipush 80, 2) := by decide +kernel
theorem dX7_layLetters_19 : decode cX7_layLetters 19 = .ok (.if_icmp .ge 93, 3) := by decide +kernel
theorem dX7_layLetters_22 : decode cX7_layLetters 22 = .ok (.aload_n 0, 1) := by decide +kernel
theorem dX7_layLetters_23 : decode cX7_layLetters 23 = .ok (.getfield 7, 3) := by decide +kernel
theorem dX7_layLetters_26 : decode cX7_layLetters 26 = .ok (.bipush 80, 2) := by decide +kernel
theorem dX7_layLetters_28 : decode cX7_layLetters 28 = .ok (.iload_n 1, 1) := by decide +kernel
theorem dX7_layLetters_29 : decode cX7_layLetters 29 = .ok (.imul, 1) := by decide +kernel
theorem dX7_layLetters_30 : decode cX7_layLetters 30 = .ok (.iload_n 2, 1) := by decide +kernel
theorem dX7_layLetters_31 : decode cX7_layLetters 31 = .ok (.iadd, 1) := by decide +kernel
theorem dX7_layLetters_32 : decode cX7_layLetters 32 = .ok (.iaload, 1) := by decide +kernel
theorem dX7_layLetters_33 : decode cX7_layLetters 33 = .ok (.bipush 32, 2) := by decide +kernel
theorem dX7_layLetters_35 : decode cX7_layLetters 35 = .ok (.if_icmp .eq 71, 3) := by decide +kernel
theorem dX7_layLetters_38 : decode cX7_layLetters 38 = .ok (.bipush 40, 2) := by decide +kernel
theorem dX7_layLetters_40 : decode cX7_layLetters 40 = .ok (.iload_n 1, 1) := by decide +kernel
theorem dX7_layLetters_41 : decode cX7_layLetters 41 = .ok (.imul, 1) := by decide +kernel
theorem dX7_layLetters_42 : decode cX7_layLetters 42 = .ok (.aload_n 0, 1) := by decide +kernel
theorem dX7_layLetters_43 : decode cX7_layLetters 43 = .ok (.getfield 19, 3) := by decide +kernel
theorem dX7_layLetters_46 : decode cX7_layLetters 46 = .ok (.iload_n 1, 1) := by decide +kernel
theorem dX7_layLetters_47 : decode cX7_layLetters 47 = .ok (.iaload, 1) := by decide +kernel
theorem dX7_layLetters_48 : decode cX7_layLetters 48 = .ok (.iadd, 1) := by decide +kernel
theorem dX7_layLetters_49 : decode cX7_layLetters 49 = .ok (.istore_n 3, 1) := by decide +kernel
theorem dX7_layLetters_50 : decode cX7_layLetters 50 = .ok (.aload_n 0, 1) := by decide +kernel
theorem dX7_layLetters_51 : decode cX7_layLetters 51 = .ok (.getfield 22, 3) := by decide +kernel
theorem dX7_layLetters_54 : decode cX7_layLetters 54 = .ok (.iload_n 3, 1) := by decide +kernel
theorem dX7_layLetters_55 : decode cX7_layLetters 55 = .ok (.iload_n 2, 1) := by decide +kernel
theorem dX7_layLetters_56 : decode cX7_layLetters 56 = .ok (.iastore, 1) := by decide +kernel
theorem dX7_layLetters_57 : decode cX7_layLetters 57 = .ok (.aload_n 0, 1) := by decide +kernel
theorem dX7_layLetters_58 : decode cX7_layLetters 58 = .ok (.getfield 25, 3) := by decide +kernel
theorem dX7_layLetters_61 : decode cX7_layLetters 61 = .ok (.iload_n 3, 1) := by decide +kernel
theorem dX7_layLetters_62 : decode cX7_layLetters 62 = .ok (.aload_n 0, 1) := by decide +kernel
theorem dX7_layLetters_63 : decode cX7_layLetters 63 = .ok (.getfield 7, 3) := by decide +kernel
theorem dX7_layLetters_66 : decode cX7_layLetters 66 = .ok (.bipush 80, 2) := by decide +kernel
theorem dX7_layLetters_68 : decode cX7_layLetters 68 = .ok (.iload_n 1, 1) := by decide +kernel
theorem dX7_layLetters_69 : decode cX7_layLetters 69 = .ok (.imul, 1) := by decide +kernel
theorem dX7_layLetters_70 : decode cX7_layLetters 70 = .ok (.iload_n 2, 1) := by decide +kernel
theorem dX7_layLetters_71 : decode cX7_layLetters 71 = .ok (.iadd, 1) := by decide +kernel
theorem dX7_layLetters_72 : decode cX7_layLetters 72 = .ok (.iaload, 1) := by decide +kernel
theorem dX7_layLetters_73 : decode cX7_layLetters 73 = .ok (.iastore, 1) := by decide +kernel
theorem dX7_layLetters_74 : decode cX7_layLetters 74 = .ok (.aload_n 0, 1) := by decide +kernel
theorem dX7_layLetters_75 : decode cX7_layLetters 75 = .ok (.getfield 28, 3) := by decide +kernel
theorem dX7_layLetters_78 : decode cX7_layLetters 78 = .ok (.iload_n 3, 1) := by decide +kernel
theorem dX7_layLetters_79 : decode cX7_layLetters 79 = .ok (.iconst (-1), 1) := by decide +kernel
theorem dX7_layLetters_80 : decode cX7_layLetters 80 = .ok (.iastore, 1) := by decide +kernel
theorem dX7_layLetters_81 : decode cX7_layLetters 81 = .ok (.aload_n 0, 1) := by decide +kernel
theorem dX7_layLetters_82 : decode cX7_layLetters 82 = .ok (.getfield 31, 3) := by decide +kernel
theorem dX7_layLetters_85 : decode cX7_layLetters 85 = .ok (.iload_n 3, 1) := by decide +kernel
theorem dX7_layLetters_86 : decode cX7_layLetters 86 = .ok (.iload_n 1, 1) := by decide +kernel
theorem dX7_layLetters_87 : decode cX7_layLetters 87 = .ok (.ifCond .ne 7, 3) := by decide +kernel
theorem dX7_layLetters_90 : decode cX7_layLetters 90 = .ok (.iconst 4, 1) := by decide +kernel
theorem dX7_layLetters_91 : decode cX7_layLetters 91 = .ok (.goto 4, 3) := by decide +kernel
theorem dX7_layLetters_94 : decode cX7_layLetters 94 = .ok (.iconst 5, 1) := by decide +kernel
theorem dX7_layLetters_95 : decode cX7_layLetters 95 = .ok (.iastore, 1) := by decide +kernel
theorem dX7_layLetters_96 : decode cX7_layLetters 96 = .ok (.aload_n 0, 1) := by decide +kernel
theorem dX7_layLetters_97 : decode cX7_layLetters 97 = .ok (.getfield 19, 3) := by decide +kernel
theorem dX7_layLetters_100 : decode cX7_layLetters 100 = .ok (.iload_n 1, 1) := by decide +kernel
theorem dX7_layLetters_101 : decode cX7_layLetters 101 = .ok (.dup2, 1) := by decide +kernel
theorem dX7_layLetters_102 : decode cX7_layLetters 102 = .ok (.iaload, 1) := by decide +kernel
theorem dX7_layLetters_103 : decode cX7_layLetters 103 = .ok (.iconst 1, 1) := by decide +kernel
theorem dX7_layLetters_104 : decode cX7_layLetters 104 = .ok (.iadd, 1) := by decide +kernel
theorem dX7_layLetters_105 : decode cX7_layLetters 105 = .ok (.iastore, 1) := by decide +kernel
theorem dX7_layLetters_106 : decode cX7_layLetters 106 = .ok (.iinc 2 1, 3) := by decide +kernel
theorem dX7_layLetters_109 : decode cX7_layLetters 109 = .ok (.goto (-93), 3) := by decide +kernel
theorem dX7_layLetters_112 : decode cX7_layLetters 112 = .ok (.iinc 1 1, 3) := by decide +kernel
theorem dX7_layLetters_115 : decode cX7_layLetters 115 = .ok (.goto (-113), 3) := by decide +kernel
theorem dX7_layLetters_118 : decode cX7_layLetters 118 = .ok (.return_, 1) := by decide +kernel
theorem pd_X7_layLetters : (parseMethodDescriptor yX7_layLetters.desc).map (fun d => d.parameters.length) = some 0 := by decide +kernel
def w_X7_layLetters (zz : Nat → Nat) (a0 : Nat) (h : AH) (Q : AH → Prop) : Prop := ∃ I_2 : Nat → Int → AH → Prop, (∃ n, I_2 n (0 : Int) h) ∧ ∀ (n_2 : Nat) (x1_2 : Int) (h_2 : AH), I_2 n_2 x1_2 h_2 → ((((2 : Int) ≤ x1_2) → Q h_2) ∧ ((¬ ((2 : Int) ≤ x1_2)) → okA h_2 a0 7 ∧ ∃ b8 : Nat, hfR h_2 a0 6 = some b8 ∧ okW h_2 b8 x1_2 ∧ ∀ h13 : AH, h13 = saI h_2 b8 (u1 (haI h_2 b8) x1_2 (0 : Int)) → ∃ I_16 : Nat → Int → AH → Prop, (∃ n, I_16 n (0 : Int) h13) ∧ ∀ (n_16 : Nat) (x2_16 : Int) (h_16 : AH), I_16 n_16 x2_16 h_16 → ((((80 : Int) ≤ x2_16) → inR (x1_2 + 1) ∧ ∀ x1_112 : Int, x1_112 = (x1_2 + 1) → ∃ m, m < n_2 ∧ I_2 m x1_112 h_16) ∧ ((¬ ((80 : Int) ≤ x2_16)) → okA h_16 a0 7 ∧ ∃ b23 : Nat, hfR h_16 a0 1 = some b23 ∧ inR ((80 : Int) * x1_2) ∧ inR (((80 : Int) * x1_2) + x2_16) ∧ okI h_16 b23 (((80 : Int) * x1_2) + x2_16) ∧ jn (fun  (h_106 : AH) => inR (x2_16 + 1) ∧ ∀ x2_106 : Int, x2_106 = (x2_16 + 1) → ∃ m, m < n_16 ∧ I_16 m x2_106 h_106) (fun k_106 : AH → Prop => (((haI h_16 b23 (((80 : Int) * x1_2) + x2_16)) = (32 : Int)) → k_106  h_16) ∧ ((¬ ((haI h_16 b23 (((80 : Int) * x1_2) + x2_16)) = (32 : Int))) → inR ((40 : Int) * x1_2) ∧ okA h_16 a0 7 ∧ ∃ b43 : Nat, hfR h_16 a0 6 = some b43 ∧ okI h_16 b43 x1_2 ∧ inR (((40 : Int) * x1_2) + (haI h_16 b43 x1_2)) ∧ ∀ x3_49 : Int, x3_49 = (((40 : Int) * x1_2) + (haI h_16 b43 x1_2)) → okA h_16 a0 7 ∧ ∃ b51 : Nat, hfR h_16 a0 7 = some b51 ∧ okW h_16 b51 x3_49 ∧ ∀ h56 : AH, h56 = saI h_16 b51 (u1 (haI h_16 b51) x3_49 x2_16) → okA h56 a0 7 ∧ ∃ b58 : Nat, hfR h56 a0 8 = some b58 ∧ okA h56 a0 7 ∧ ∃ b63 : Nat, hfR h56 a0 1 = some b63 ∧ inR ((80 : Int) * x1_2) ∧ inR (((80 : Int) * x1_2) + x2_16) ∧ okI h56 b63 (((80 : Int) * x1_2) + x2_16) ∧ okW h56 b58 x3_49 ∧ ∀ h73 : AH, h73 = saI h56 b58 (u1 (haI h56 b58) x3_49 (haI h56 b63 (((80 : Int) * x1_2) + x2_16))) → okA h73 a0 7 ∧ ∃ b75 : Nat, hfR h73 a0 9 = some b75 ∧ okW h73 b75 x3_49 ∧ ∀ h80 : AH, h80 = saI h73 b75 (u1 (haI h73 b75) x3_49 (-1 : Int)) → okA h80 a0 7 ∧ ∃ b82 : Nat, hfR h80 a0 10 = some b82 ∧ jn (fun (t2_95 : Int) (h_95 : AH) => okW h_95 b82 x3_49 ∧ ∀ h95 : AH, h95 = saI h_95 b82 (u1 (haI h_95 b82) x3_49 t2_95) → okA h95 a0 7 ∧ ∃ b97 : Nat, hfR h95 a0 6 = some b97 ∧ okI h95 b97 x1_2 ∧ inR ((haI h95 b97 x1_2) + (1 : Int)) ∧ okW h95 b97 x1_2 ∧ ∀ h105 : AH, h105 = saI h95 b97 (u1 (haI h95 b97) x1_2 ((haI h95 b97 x1_2) + (1 : Int))) → k_106  h105) (fun k_95 : Int → AH → Prop => ((¬ x1_2 = 0) → k_95 (5 : Int) h80) ∧ ((x1_2 = 0) → k_95 (4 : Int) h80))))))))
set_option maxRecDepth 100000 in
set_option maxHeartbeats 4000000 in
theorem met_X7_layLetters (G : GG) (l : Launch) : ∀ (As : List Value) (a0 : Nat) (h : AH) (Q : AH → Prop), As.map ab = List.map some ([vR a0] : List AV) → w_X7_layLetters G.2.2 a0 h Q → Met l yX7_layLetters (.code yX7_layLetters cX7_layLetters 4 none :: xTb) ({ frames := 0, cells := 0, slots := 0, locals := 0 } : Room) (PcA G As h) (QG G (oV Q)) 0 0 (frA G) := by
  intro As a0 h Q hA hw
  refine met_of hA (by decide) (Nat.le_of_ble_eq_true rfl) (fun p e s m args below meth c C hml hr hnm => ?_)
  unfold w_X7_layLetters at hw
  refine aw_iconst (pc := 0) C dX7_layLetters_0 (i := (0 : Int)) (by decide) ?_
  refine aw_istore_n (pc := 1) C dX7_layLetters_1 rfl (by rw [hml]; decide) ?_
  obtain ⟨I_2, ⟨n9, hi9⟩, hst9⟩ := hw
  have L_2 : ∀ (n_2 : Nat) (x1_2 : Int) (h_2 : AH), I_2 n_2 x1_2 h_2 → AW G p l e ({ frames := 0, cells := 0, slots := 0, locals := 0 } : Room) s m args below meth c 0 0 (MQ below (QG G (oV Q)) args s 0 0 (frA G)) 2 (eOf [(0, vR a0), (1, vI x1_2)]) [] h_2 := by
    intro n_2
    induction n_2 using Nat.strongRecOn with
    | _ n_2 ih_2 =>
    intro x1_2 h_2 hi9
    have hw := hst9 n_2 x1_2 h_2 hi9
    refine aw_iload_n (pc := 2) C dX7_layLetters_2 rfl rfl ?_
    refine aw_iconst (pc := 3) C dX7_layLetters_3 (i := (2 : Int)) (by decide) ?_
    refine aw_icmp_ge (pc := 4) (tgt := 118) C dX7_layLetters_4 (by decide) (fun hc9 => ?_) (fun hc9 => ?_)
    · have hw := hw.1 hc9
      exact aw_vret (pc := 118) C hr dX7_layLetters_118 ⟨Nat.le_of_ble_eq_true rfl, Nat.le_of_ble_eq_true rfl⟩ ⟨rfl, hw⟩
    · have hw := hw.2 hc9
      refine aw_aload_n (pc := 7) C dX7_layLetters_7 rfl rfl ?_
      obtain ⟨hp9, b8, hb9, hw⟩ := hw
      refine aw_getR (pc := 8) C (ci := 7) (k := 6) ci7 (by decide) tw798 dX7_layLetters_8 rfl hp9 hb9 ?_
      refine aw_iload_n (pc := 11) C dX7_layLetters_11 rfl rfl ?_
      refine aw_iconst (pc := 12) C dX7_layLetters_12 (i := (0 : Int)) (by decide) ?_
      obtain ⟨⟨k9, hp9⟩, hw⟩ := hw
      refine aw_iast (pc := 13) C dX7_layLetters_13 hp9 (aw_nmH (fun h13 e9 => ?_))
      have hw := hw h13 e9
      refine aw_iconst (pc := 14) C dX7_layLetters_14 (i := (0 : Int)) (by decide) ?_
      refine aw_istore_n (pc := 15) C dX7_layLetters_15 rfl (by rw [hml]; decide) ?_
      obtain ⟨I_16, ⟨n9, hi9⟩, hst9⟩ := hw
      have L_16 : ∀ (n_16 : Nat) (x2_16 : Int) (h_16 : AH), I_16 n_16 x2_16 h_16 → AW G p l e ({ frames := 0, cells := 0, slots := 0, locals := 0 } : Room) s m args below meth c 0 0 (MQ below (QG G (oV Q)) args s 0 0 (frA G)) 16 (eOf [(0, vR a0), (1, vI x1_2), (2, vI x2_16)]) [] h_16 := by
        intro n_16
        induction n_16 using Nat.strongRecOn with
        | _ n_16 ih_16 =>
        intro x2_16 h_16 hi9
        have hw := hst9 n_16 x2_16 h_16 hi9
        refine aw_iload_n (pc := 16) C dX7_layLetters_16 rfl rfl ?_
        refine aw_bipush (pc := 17) C dX7_layLetters_17 (i := (80 : Int)) (by decide) ?_
        refine aw_icmp_ge (pc := 19) (tgt := 112) C dX7_layLetters_19 (by decide) (fun hc9 => ?_) (fun hc9 => ?_)
        · have hw := hw.1 hc9
          obtain ⟨hp9, hw⟩ := hw
          refine aw_iincN (pc := 112) C dX7_layLetters_112 (k := 1) (by decide) rfl (by rw [hml]; decide) hp9 (fun x1_112 e9 => ?_)
          have hw := hw x1_112 e9
          refine aw_goto (pc := 115) (tgt := 2) C dX7_layLetters_115 (by decide) ?_
          obtain ⟨m9, hm9, hw⟩ := hw
          refine aw_sub [(0, vR a0), (1, vI x1_112)] ⟨rfl, rfl, trivial⟩ ?_
          exact ih_2 m9 hm9 _ _ hw
        · have hw := hw.2 hc9
          refine aw_aload_n (pc := 22) C dX7_layLetters_22 rfl rfl ?_
          obtain ⟨hp9, b23, hb9, hw⟩ := hw
          refine aw_getR (pc := 23) C (ci := 7) (k := 1) ci7 (by decide) tw793 dX7_layLetters_23 rfl hp9 hb9 ?_
          refine aw_bipush (pc := 26) C dX7_layLetters_26 (i := (80 : Int)) (by decide) ?_
          refine aw_iload_n (pc := 28) C dX7_layLetters_28 rfl rfl ?_
          obtain ⟨hp9, hw⟩ := hw
          refine aw_imul (pc := 29) C dX7_layLetters_29 hp9 ?_
          refine aw_iload_n (pc := 30) C dX7_layLetters_30 rfl rfl ?_
          obtain ⟨hp9, hw⟩ := hw
          refine aw_iadd (pc := 31) C dX7_layLetters_31 hp9 ?_
          obtain ⟨⟨k9, hp9⟩, hw⟩ := hw
          refine aw_iald (pc := 32) C dX7_layLetters_32 hp9 ?_
          refine aw_bipush (pc := 33) C dX7_layLetters_33 (i := (32 : Int)) (by decide) ?_
          obtain ⟨k_106, hk_106, hw⟩ := jn_out hw
          have J_106 : ∀  (h_106 : AH), k_106  h_106 → AW G p l e ({ frames := 0, cells := 0, slots := 0, locals := 0 } : Room) s m args below meth c 0 0 (MQ below (QG G (oV Q)) args s 0 0 (frA G)) 106 (eOf [(0, vR a0), (1, vI x1_2), (2, vI x2_16)]) [] h_106 := by
            intro  h_106 hw
            rw [hk_106] at hw
            obtain ⟨hp9, hw⟩ := hw
            refine aw_iincN (pc := 106) C dX7_layLetters_106 (k := 1) (by decide) rfl (by rw [hml]; decide) hp9 (fun x2_106 e9 => ?_)
            have hw := hw x2_106 e9
            refine aw_goto (pc := 109) (tgt := 16) C dX7_layLetters_109 (by decide) ?_
            obtain ⟨m9, hm9, hw⟩ := hw
            refine aw_sub [(0, vR a0), (1, vI x1_2), (2, vI x2_106)] ⟨rfl, rfl, rfl, trivial⟩ ?_
            exact ih_16 m9 hm9 _ _ hw
          refine aw_icmp_eq (pc := 35) (tgt := 106) C dX7_layLetters_35 (by decide) (fun hc9 => ?_) (fun hc9 => ?_)
          · have hw := hw.1 hc9
            refine aw_sub [(0, vR a0), (1, vI x1_2), (2, vI x2_16)] ⟨rfl, rfl, rfl, trivial⟩ ?_
            exact J_106  _ hw
          · have hw := hw.2 hc9
            refine aw_bipush (pc := 38) C dX7_layLetters_38 (i := (40 : Int)) (by decide) ?_
            refine aw_iload_n (pc := 40) C dX7_layLetters_40 rfl rfl ?_
            obtain ⟨hp9, hw⟩ := hw
            refine aw_imul (pc := 41) C dX7_layLetters_41 hp9 ?_
            refine aw_aload_n (pc := 42) C dX7_layLetters_42 rfl rfl ?_
            obtain ⟨hp9, b43, hb9, hw⟩ := hw
            refine aw_getR (pc := 43) C (ci := 7) (k := 6) ci7 (by decide) tw798 dX7_layLetters_43 rfl hp9 hb9 ?_
            refine aw_iload_n (pc := 46) C dX7_layLetters_46 rfl rfl ?_
            obtain ⟨⟨k9, hp9⟩, hw⟩ := hw
            refine aw_iald (pc := 47) C dX7_layLetters_47 hp9 ?_
            obtain ⟨hp9, hw⟩ := hw
            refine aw_iadd (pc := 48) C dX7_layLetters_48 hp9 ?_
            refine aw_nmI (fun x3_49 e9 => ?_)
            have hw := hw x3_49 e9
            refine aw_istore_n (pc := 49) C dX7_layLetters_49 rfl (by rw [hml]; decide) ?_
            refine aw_aload_n (pc := 50) C dX7_layLetters_50 rfl rfl ?_
            obtain ⟨hp9, b51, hb9, hw⟩ := hw
            refine aw_getR (pc := 51) C (ci := 7) (k := 7) ci7 (by decide) tw799 dX7_layLetters_51 rfl hp9 hb9 ?_
            refine aw_iload_n (pc := 54) C dX7_layLetters_54 rfl rfl ?_
            refine aw_iload_n (pc := 55) C dX7_layLetters_55 rfl rfl ?_
            obtain ⟨⟨k9, hp9⟩, hw⟩ := hw
            refine aw_iast (pc := 56) C dX7_layLetters_56 hp9 (aw_nmH (fun h56 e9 => ?_))
            have hw := hw h56 e9
            refine aw_aload_n (pc := 57) C dX7_layLetters_57 rfl rfl ?_
            obtain ⟨hp9, b58, hb9, hw⟩ := hw
            refine aw_getR (pc := 58) C (ci := 7) (k := 8) ci7 (by decide) tw800 dX7_layLetters_58 rfl hp9 hb9 ?_
            refine aw_iload_n (pc := 61) C dX7_layLetters_61 rfl rfl ?_
            refine aw_aload_n (pc := 62) C dX7_layLetters_62 rfl rfl ?_
            obtain ⟨hp9, b63, hb9, hw⟩ := hw
            refine aw_getR (pc := 63) C (ci := 7) (k := 1) ci7 (by decide) tw793 dX7_layLetters_63 rfl hp9 hb9 ?_
            refine aw_bipush (pc := 66) C dX7_layLetters_66 (i := (80 : Int)) (by decide) ?_
            refine aw_iload_n (pc := 68) C dX7_layLetters_68 rfl rfl ?_
            obtain ⟨hp9, hw⟩ := hw
            refine aw_imul (pc := 69) C dX7_layLetters_69 hp9 ?_
            refine aw_iload_n (pc := 70) C dX7_layLetters_70 rfl rfl ?_
            obtain ⟨hp9, hw⟩ := hw
            refine aw_iadd (pc := 71) C dX7_layLetters_71 hp9 ?_
            obtain ⟨⟨k9, hp9⟩, hw⟩ := hw
            refine aw_iald (pc := 72) C dX7_layLetters_72 hp9 ?_
            obtain ⟨⟨k9, hp9⟩, hw⟩ := hw
            refine aw_iast (pc := 73) C dX7_layLetters_73 hp9 (aw_nmH (fun h73 e9 => ?_))
            have hw := hw h73 e9
            refine aw_aload_n (pc := 74) C dX7_layLetters_74 rfl rfl ?_
            obtain ⟨hp9, b75, hb9, hw⟩ := hw
            refine aw_getR (pc := 75) C (ci := 7) (k := 9) ci7 (by decide) tw801 dX7_layLetters_75 rfl hp9 hb9 ?_
            refine aw_iload_n (pc := 78) C dX7_layLetters_78 rfl rfl ?_
            refine aw_iconst (pc := 79) C dX7_layLetters_79 (i := (-1 : Int)) (by decide) ?_
            obtain ⟨⟨k9, hp9⟩, hw⟩ := hw
            refine aw_iast (pc := 80) C dX7_layLetters_80 hp9 (aw_nmH (fun h80 e9 => ?_))
            have hw := hw h80 e9
            refine aw_aload_n (pc := 81) C dX7_layLetters_81 rfl rfl ?_
            obtain ⟨hp9, b82, hb9, hw⟩ := hw
            refine aw_getR (pc := 82) C (ci := 7) (k := 10) ci7 (by decide) tw802 dX7_layLetters_82 rfl hp9 hb9 ?_
            refine aw_iload_n (pc := 85) C dX7_layLetters_85 rfl rfl ?_
            refine aw_iload_n (pc := 86) C dX7_layLetters_86 rfl rfl ?_
            obtain ⟨k_95, hk_95, hw⟩ := jn_out hw
            have J_95 : ∀ (t2_95 : Int) (h_95 : AH), k_95 t2_95 h_95 → AW G p l e ({ frames := 0, cells := 0, slots := 0, locals := 0 } : Room) s m args below meth c 0 0 (MQ below (QG G (oV Q)) args s 0 0 (frA G)) 95 (eOf [(0, vR a0), (1, vI x1_2), (2, vI x2_16)]) [vI t2_95, vI x3_49, vR b82] h_95 := by
              intro t2_95 h_95 hw
              rw [hk_95] at hw
              obtain ⟨⟨k9, hp9⟩, hw⟩ := hw
              refine aw_iast (pc := 95) C dX7_layLetters_95 hp9 (aw_nmH (fun h95 e9 => ?_))
              have hw := hw h95 e9
              refine aw_aload_n (pc := 96) C dX7_layLetters_96 rfl rfl ?_
              obtain ⟨hp9, b97, hb9, hw⟩ := hw
              refine aw_getR (pc := 97) C (ci := 7) (k := 6) ci7 (by decide) tw798 dX7_layLetters_97 rfl hp9 hb9 ?_
              refine aw_iload_n (pc := 100) C dX7_layLetters_100 rfl rfl ?_
              refine aw_dup2 (pc := 101) C dX7_layLetters_101 rfl rfl ?_
              obtain ⟨⟨k9, hp9⟩, hw⟩ := hw
              refine aw_iald (pc := 102) C dX7_layLetters_102 hp9 ?_
              refine aw_iconst (pc := 103) C dX7_layLetters_103 (i := (1 : Int)) (by decide) ?_
              obtain ⟨hp9, hw⟩ := hw
              refine aw_iadd (pc := 104) C dX7_layLetters_104 hp9 ?_
              obtain ⟨⟨k9, hp9⟩, hw⟩ := hw
              refine aw_iast (pc := 105) C dX7_layLetters_105 hp9 (aw_nmH (fun h105 e9 => ?_))
              have hw := hw h105 e9
              refine aw_sub [(0, vR a0), (1, vI x1_2), (2, vI x2_16)] ⟨rfl, rfl, rfl, trivial⟩ ?_
              exact J_106  _ hw
            refine aw_if_ne (pc := 87) (tgt := 94) C dX7_layLetters_87 (by decide) (fun hc9 => ?_) (fun hc9 => ?_)
            · have hw := hw.1 hc9
              refine aw_iconst (pc := 94) C dX7_layLetters_94 (i := (5 : Int)) (by decide) ?_
              refine aw_sub [(0, vR a0), (1, vI x1_2), (2, vI x2_16)] ⟨rfl, rfl, rfl, trivial⟩ ?_
              exact J_95 _ _ hw
            · have hw := hw.2 hc9
              refine aw_iconst (pc := 90) C dX7_layLetters_90 (i := (4 : Int)) (by decide) ?_
              refine aw_goto (pc := 91) (tgt := 95) C dX7_layLetters_91 (by decide) ?_
              refine aw_sub [(0, vR a0), (1, vI x1_2), (2, vI x2_16)] ⟨rfl, rfl, rfl, trivial⟩ ?_
              exact J_95 _ _ hw
      refine aw_sub [(0, vR a0), (1, vI x1_2), (2, vI (0 : Int))] ⟨rfl, rfl, rfl, trivial⟩ ?_
      exact L_16 n9 _ _ hi9
  refine aw_sub [(0, vR a0), (1, vI (0 : Int))] ⟨rfl, rfl, trivial⟩ ?_
  exact L_2 n9 _ _ hi9
theorem dX7_pair_0 : decode cX7_pair 0 = .ok (.aload_n 0, 1) := by decide +kernel
theorem dX7_pair_1 : decode cX7_pair 1 = .ok (.getfield 28, 3) := by decide +kernel
theorem dX7_pair_4 : decode cX7_pair 4 = .ok (.iload_n 1, 1) := by decide +kernel
theorem dX7_pair_5 : decode cX7_pair 5 = .ok (.iload_n 2, 1) := by decide +kernel
theorem dX7_pair_6 : decode cX7_pair 6 = .ok (.iastore, 1) := by decide +kernel
theorem dX7_pair_7 : decode cX7_pair 7 = .ok (.aload_n 0, 1) := by decide +kernel
theorem dX7_pair_8 : decode cX7_pair 8 = .ok (.getfield 28, 3) := by decide +kernel
theorem dX7_pair_11 : decode cX7_pair 11 = .ok (.bipush 40, 2) := by decide +kernel
theorem dX7_pair_13 : decode cX7_pair 13 = .ok (.iload_n 2, 1) := by decide +kernel
theorem dX7_pair_14 : decode cX7_pair 14 = .ok (.iadd, 1) := by decide +kernel
theorem dX7_pair_15 : decode cX7_pair 15 = .ok (.iload_n 1, 1) := by decide +kernel
theorem dX7_pair_16 : decode cX7_pair 16 = .ok (.iastore, 1) := by decide +kernel
theorem dX7_pair_17 : decode cX7_pair 17 = .ok (.aload_n 0, 1) := by decide +kernel
theorem dX7_pair_18 : decode cX7_pair 18 = .ok (.getfield 31, 3) := by decide +kernel
theorem dX7_pair_21 : decode cX7_pair 21 = .ok (.iload_n 1, 1) := by decide +kernel
theorem dX7_pair_22 : decode cX7_pair 22 = .ok (.iload_n 3, 1) := by decide +kernel
theorem dX7_pair_23 : decode cX7_pair 23 = .ok (.iastore, 1) := by decide +kernel
theorem dX7_pair_24 : decode cX7_pair 24 = .ok (.aload_n 0, 1) := by decide +kernel
theorem dX7_pair_25 : decode cX7_pair 25 = .ok (.getfield 31, 3) := by decide +kernel
theorem dX7_pair_28 : decode cX7_pair 28 = .ok (.bipush 40, 2) := by decide +kernel
theorem dX7_pair_30 : decode cX7_pair 30 = .ok (.iload_n 2, 1) := by decide +kernel
theorem dX7_pair_31 : decode cX7_pair 31 = .ok (.iadd, 1) := by decide +kernel
theorem dX7_pair_32 : decode cX7_pair 32 = .ok (.iload_n 3, 1) := by decide +kernel
theorem dX7_pair_33 : decode cX7_pair 33 = .ok (.iastore, 1) := by decide +kernel
theorem dX7_pair_34 : decode cX7_pair 34 = .ok (.return_, 1) := by decide +kernel
theorem pd_X7_pair : (parseMethodDescriptor yX7_pair.desc).map (fun d => d.parameters.length) = some 3 := by decide +kernel
def w_X7_pair (zz : Nat → Nat) (a0 : Nat) (a1 : Int) (a2 : Int) (a3 : Int) (h : AH) (Q : AH → Prop) : Prop := okA h a0 7 ∧ ∃ b1 : Nat, hfR h a0 9 = some b1 ∧ okW h b1 a1 ∧ ∀ h6 : AH, h6 = saI h b1 (u1 (haI h b1) a1 a2) → okA h6 a0 7 ∧ ∃ b8 : Nat, hfR h6 a0 9 = some b8 ∧ inR ((40 : Int) + a2) ∧ okW h6 b8 ((40 : Int) + a2) ∧ ∀ h16 : AH, h16 = saI h6 b8 (u1 (haI h6 b8) ((40 : Int) + a2) a1) → okA h16 a0 7 ∧ ∃ b18 : Nat, hfR h16 a0 10 = some b18 ∧ okW h16 b18 a1 ∧ ∀ h23 : AH, h23 = saI h16 b18 (u1 (haI h16 b18) a1 a3) → okA h23 a0 7 ∧ ∃ b25 : Nat, hfR h23 a0 10 = some b25 ∧ inR ((40 : Int) + a2) ∧ okW h23 b25 ((40 : Int) + a2) ∧ ∀ h33 : AH, h33 = saI h23 b25 (u1 (haI h23 b25) ((40 : Int) + a2) a3) → Q h33
set_option maxRecDepth 100000 in
set_option maxHeartbeats 4000000 in
theorem met_X7_pair (G : GG) (l : Launch) : ∀ (As : List Value) (a0 : Nat) (a1 : Int) (a2 : Int) (a3 : Int) (h : AH) (Q : AH → Prop), As.map ab = List.map some ([vR a0, vI a1, vI a2, vI a3] : List AV) → w_X7_pair G.2.2 a0 a1 a2 a3 h Q → Met l yX7_pair (.code yX7_pair cX7_pair 4 none :: xTb) ({ frames := 0, cells := 0, slots := 0, locals := 0 } : Room) (PcA G As h) (QG G (oV Q)) 0 0 (frA G) := by
  intro As a0 a1 a2 a3 h Q hA hw
  refine met_of hA (by decide) (Nat.le_of_ble_eq_true rfl) (fun p e s m args below meth c C hml hr hnm => ?_)
  unfold w_X7_pair at hw
  refine aw_aload_n (pc := 0) C dX7_pair_0 rfl rfl ?_
  obtain ⟨hp9, b1, hb9, hw⟩ := hw
  refine aw_getR (pc := 1) C (ci := 7) (k := 9) ci7 (by decide) tw801 dX7_pair_1 rfl hp9 hb9 ?_
  refine aw_iload_n (pc := 4) C dX7_pair_4 rfl rfl ?_
  refine aw_iload_n (pc := 5) C dX7_pair_5 rfl rfl ?_
  obtain ⟨⟨k9, hp9⟩, hw⟩ := hw
  refine aw_iast (pc := 6) C dX7_pair_6 hp9 (aw_nmH (fun h6 e9 => ?_))
  have hw := hw h6 e9
  refine aw_aload_n (pc := 7) C dX7_pair_7 rfl rfl ?_
  obtain ⟨hp9, b8, hb9, hw⟩ := hw
  refine aw_getR (pc := 8) C (ci := 7) (k := 9) ci7 (by decide) tw801 dX7_pair_8 rfl hp9 hb9 ?_
  refine aw_bipush (pc := 11) C dX7_pair_11 (i := (40 : Int)) (by decide) ?_
  refine aw_iload_n (pc := 13) C dX7_pair_13 rfl rfl ?_
  obtain ⟨hp9, hw⟩ := hw
  refine aw_iadd (pc := 14) C dX7_pair_14 hp9 ?_
  refine aw_iload_n (pc := 15) C dX7_pair_15 rfl rfl ?_
  obtain ⟨⟨k9, hp9⟩, hw⟩ := hw
  refine aw_iast (pc := 16) C dX7_pair_16 hp9 (aw_nmH (fun h16 e9 => ?_))
  have hw := hw h16 e9
  refine aw_aload_n (pc := 17) C dX7_pair_17 rfl rfl ?_
  obtain ⟨hp9, b18, hb9, hw⟩ := hw
  refine aw_getR (pc := 18) C (ci := 7) (k := 10) ci7 (by decide) tw802 dX7_pair_18 rfl hp9 hb9 ?_
  refine aw_iload_n (pc := 21) C dX7_pair_21 rfl rfl ?_
  refine aw_iload_n (pc := 22) C dX7_pair_22 rfl rfl ?_
  obtain ⟨⟨k9, hp9⟩, hw⟩ := hw
  refine aw_iast (pc := 23) C dX7_pair_23 hp9 (aw_nmH (fun h23 e9 => ?_))
  have hw := hw h23 e9
  refine aw_aload_n (pc := 24) C dX7_pair_24 rfl rfl ?_
  obtain ⟨hp9, b25, hb9, hw⟩ := hw
  refine aw_getR (pc := 25) C (ci := 7) (k := 10) ci7 (by decide) tw802 dX7_pair_25 rfl hp9 hb9 ?_
  refine aw_bipush (pc := 28) C dX7_pair_28 (i := (40 : Int)) (by decide) ?_
  refine aw_iload_n (pc := 30) C dX7_pair_30 rfl rfl ?_
  obtain ⟨hp9, hw⟩ := hw
  refine aw_iadd (pc := 31) C dX7_pair_31 hp9 ?_
  refine aw_iload_n (pc := 32) C dX7_pair_32 rfl rfl ?_
  obtain ⟨⟨k9, hp9⟩, hw⟩ := hw
  refine aw_iast (pc := 33) C dX7_pair_33 hp9 (aw_nmH (fun h33 e9 => ?_))
  have hw := hw h33 e9
  exact aw_vret (pc := 34) C hr dX7_pair_34 ⟨Nat.le_of_ble_eq_true rfl, Nat.le_of_ble_eq_true rfl⟩ ⟨rfl, hw⟩
theorem dX7_size_0 : decode cX7_size 0 = .ok (.iload_n 0, 1) := by decide +kernel
theorem dX7_size_1 : decode cX7_size 1 = .ok (.ifCond .ge 8, 3) := by decide +kernel
theorem dX7_size_4 : decode cX7_size 4 = .ok (.iload_n 0, 1) := by decide +kernel
theorem dX7_size_5 : decode cX7_size 5 = .ok (.ineg, 1) := by decide +kernel
theorem dX7_size_6 : decode cX7_size 6 = .ok (.goto 4, 3) := by decide +kernel
theorem dX7_size_9 : decode cX7_size 9 = .ok (.iload_n 0, 1) := by decide +kernel
theorem dX7_size_10 : decode cX7_size 10 = .ok (.ireturn, 1) := by decide +kernel
theorem pd_X7_size : (parseMethodDescriptor yX7_size.desc).map (fun d => d.parameters.length) = some 1 := by decide +kernel
def w_X7_size (zz : Nat → Nat) (a0 : Int) (h : AH) (Q : Int → AH → Prop) : Prop := jn (fun (t0_10 : Int) (h_10 : AH) => Q t0_10 h_10) (fun k_10 : Int → AH → Prop => ((0 ≤ a0) → k_10 a0 h) ∧ ((¬ (0 ≤ a0)) → inR (-a0) ∧ k_10 (-a0) h))
set_option maxRecDepth 100000 in
set_option maxHeartbeats 4000000 in
theorem met_X7_size (G : GG) (l : Launch) : ∀ (As : List Value) (a0 : Int) (h : AH) (Q : Int → AH → Prop), As.map ab = List.map some ([vI a0] : List AV) → w_X7_size G.2.2 a0 h Q → Met l yX7_size (.code yX7_size cX7_size 1 (some .int) :: xTb) ({ frames := 0, cells := 0, slots := 0, locals := 0 } : Room) (PcA G As h) (QG G (oI Q)) 0 0 (frA G) := by
  intro As a0 h Q hA hw
  refine met_of hA (by decide) (Nat.le_of_ble_eq_true rfl) (fun p e s m args below meth c C hml hr hnm => ?_)
  unfold w_X7_size at hw
  refine aw_iload_n (pc := 0) C dX7_size_0 rfl rfl ?_
  obtain ⟨k_10, hk_10, hw⟩ := jn_out hw
  have J_10 : ∀ (t0_10 : Int) (h_10 : AH), k_10 t0_10 h_10 → AW G p l e ({ frames := 0, cells := 0, slots := 0, locals := 0 } : Room) s m args below meth c 0 0 (MQ below (QG G (oI Q)) args s 0 0 (frA G)) 10 (eOf []) [vI t0_10] h_10 := by
    intro t0_10 h_10 hw
    rw [hk_10] at hw
    exact aw_iret (pc := 10) C hr dX7_size_10 ⟨Nat.le_of_ble_eq_true rfl, Nat.le_of_ble_eq_true rfl⟩ ⟨_, rfl, hw⟩
  refine aw_if_ge (pc := 1) (tgt := 9) C dX7_size_1 (by decide) (fun hc9 => ?_) (fun hc9 => ?_)
  · have hw := hw.1 hc9
    refine aw_iload_n (pc := 9) C dX7_size_9 rfl rfl ?_
    refine aw_sub [] trivial ?_
    exact J_10 _ _ hw
  · have hw := hw.2 hc9
    refine aw_iload_n (pc := 4) C dX7_size_4 rfl rfl ?_
    obtain ⟨hp9, hw⟩ := hw
    refine aw_ineg (pc := 5) C dX7_size_5 hp9 ?_
    refine aw_goto (pc := 6) (tgt := 10) C dX7_size_6 (by decide) ?_
    refine aw_sub [] trivial ?_
    exact J_10 _ _ hw
theorem dX7_distance_0 : decode cX7_distance 0 = .ok (.aload_n 0, 1) := by decide +kernel
theorem dX7_distance_1 : decode cX7_distance 1 = .ok (.getfield 22, 3) := by decide +kernel
theorem dX7_distance_4 : decode cX7_distance 4 = .ok (.iload_n 1, 1) := by decide +kernel
theorem dX7_distance_5 : decode cX7_distance 5 = .ok (.iaload, 1) := by decide +kernel
theorem dX7_distance_6 : decode cX7_distance 6 = .ok (.istore_n 3, 1) := by decide +kernel
theorem dX7_distance_7 : decode cX7_distance 7 = .ok (.aload_n 0, 1) := by decide +kernel
theorem dX7_distance_8 : decode cX7_distance 8 = .ok (.getfield 22, 3) := by decide +kernel
theorem dX7_distance_11 : decode cX7_distance 11 = .ok (.bipush 40, 2) := by decide +kernel
theorem dX7_distance_13 : decode cX7_distance 13 = .ok (.iload_n 2, 1) := by decide +kernel
theorem dX7_distance_14 : decode cX7_distance 14 = .ok (.iadd, 1) := by decide +kernel
theorem dX7_distance_15 : decode cX7_distance 15 = .ok (.iaload, 1) := by decide +kernel
theorem dX7_distance_16 : decode cX7_distance 16 = .ok (.istore 4, 2) := by decide +kernel
theorem dX7_distance_18 : decode cX7_distance 18 = .ok (.iload_n 3, 1) := by decide +kernel
theorem dX7_distance_19 : decode cX7_distance 19 = .ok (.bipush 16, 2) := by decide +kernel
theorem dX7_distance_21 : decode cX7_distance 21 = .ok (.irem, 1) := by decide +kernel
theorem dX7_distance_22 : decode cX7_distance 22 = .ok (.iload 4, 2) := by decide +kernel
theorem dX7_distance_24 : decode cX7_distance 24 = .ok (.bipush 16, 2) := by decide +kernel
theorem dX7_distance_26 : decode cX7_distance 26 = .ok (.irem, 1) := by decide +kernel
theorem dX7_distance_27 : decode cX7_distance 27 = .ok (.isub, 1) := by decide +kernel
theorem dX7_distance_28 : decode cX7_distance 28 = .ok (.invokestatic 69, 3) := by decide +kernel
theorem dX7_distance_31 : decode cX7_distance 31 = .ok (.aload_n 0, 1) := by decide +kernel
theorem dX7_distance_32 : decode cX7_distance 32 = .ok (.iconst 0, 1) := by decide +kernel
theorem dX7_distance_33 : decode cX7_distance 33 = .ok (.invokevirtual 73, 3) := by decide +kernel
theorem dX7_distance_36 : decode cX7_distance 36 = .ok (.iload_n 3, 1) := by decide +kernel
theorem dX7_distance_37 : decode cX7_distance 37 = .ok (.bipush 16, 2) := by decide +kernel
theorem dX7_distance_39 : decode cX7_distance 39 = .ok (.idiv, 1) := by decide +kernel
theorem dX7_distance_40 : decode cX7_distance 40 = .ok (.iload 4, 2) := by decide +kernel
theorem dX7_distance_42 : decode cX7_distance 42 = .ok (.bipush 16, 2) := by decide +kernel
theorem dX7_distance_44 : decode cX7_distance 44 = .ok (.idiv, 1) := by decide +kernel
theorem dX7_distance_45 : decode cX7_distance 45 = .ok (.isub, 1) := by decide +kernel
theorem dX7_distance_46 : decode cX7_distance 46 = .ok (.invokestatic 69, 3) := by decide +kernel
theorem dX7_distance_49 : decode cX7_distance 49 = .ok (.imul, 1) := by decide +kernel
theorem dX7_distance_50 : decode cX7_distance 50 = .ok (.iadd, 1) := by decide +kernel
theorem dX7_distance_51 : decode cX7_distance 51 = .ok (.ireturn, 1) := by decide +kernel
theorem pd_X7_distance : (parseMethodDescriptor yX7_distance.desc).map (fun d => d.parameters.length) = some 2 := by decide +kernel
def w_X7_distance (zz : Nat → Nat) (a0 : Nat) (a1 : Int) (a2 : Int) (h : AH) (Q : Int → AH → Prop) : Prop := okA h a0 7 ∧ ∃ b1 : Nat, hfR h a0 7 = some b1 ∧ okI h b1 a1 ∧ ∀ x3_6 : Int, x3_6 = (haI h b1 a1) → okA h a0 7 ∧ ∃ b8 : Nat, hfR h a0 7 = some b8 ∧ inR ((40 : Int) + a2) ∧ okI h b8 ((40 : Int) + a2) ∧ ∀ x4_16 : Int, x4_16 = (haI h b8 ((40 : Int) + a2)) → (0 ≤ x3_6 ∧ 0 < (16 : Int)) ∧ (0 ≤ x4_16 ∧ 0 < (16 : Int)) ∧ inR ((x3_6 % (16 : Int)) - (x4_16 % (16 : Int))) ∧ w_X7_size zz ((x3_6 % (16 : Int)) - (x4_16 % (16 : Int))) h (fun (r28 : Int) (h28 : AH) => okA h28 a0 7 ∧ w_X7_of zz a0 (0 : Int) h28 (fun (r33 : Int) (h33 : AH) => (0 ≤ x3_6 ∧ 0 < (16 : Int)) ∧ (0 ≤ x4_16 ∧ 0 < (16 : Int)) ∧ inR ((x3_6 / (16 : Int)) - (x4_16 / (16 : Int))) ∧ w_X7_size zz ((x3_6 / (16 : Int)) - (x4_16 / (16 : Int))) h33 (fun (r46 : Int) (h46 : AH) => inR (r33 * r46) ∧ inR (r28 + (r33 * r46)) ∧ Q (r28 + (r33 * r46)) h46)))
set_option maxRecDepth 100000 in
set_option maxHeartbeats 4000000 in
theorem met_X7_distance (G : GG) (l : Launch) : ∀ (As : List Value) (a0 : Nat) (a1 : Int) (a2 : Int) (h : AH) (Q : Int → AH → Prop), As.map ab = List.map some ([vR a0, vI a1, vI a2] : List AV) → w_X7_distance G.2.2 a0 a1 a2 h Q → Met l yX7_distance (.code yX7_distance cX7_distance 5 (some .int) :: xTb) ({ frames := 1, cells := 0, slots := 0, locals := 21 } : Room) (PcA G As h) (QG G (oI Q)) 0 0 (frA G) := by
  intro As a0 a1 a2 h Q hA hw
  refine met_of hA (by decide) (Nat.le_of_ble_eq_true rfl) (fun p e s m args below meth c C hml hr hnm => ?_)
  unfold w_X7_distance at hw
  refine aw_aload_n (pc := 0) C dX7_distance_0 rfl rfl ?_
  obtain ⟨hp9, b1, hb9, hw⟩ := hw
  refine aw_getR (pc := 1) C (ci := 7) (k := 7) ci7 (by decide) tw799 dX7_distance_1 rfl hp9 hb9 ?_
  refine aw_iload_n (pc := 4) C dX7_distance_4 rfl rfl ?_
  obtain ⟨⟨k9, hp9⟩, hw⟩ := hw
  refine aw_iald (pc := 5) C dX7_distance_5 hp9 ?_
  refine aw_nmI (fun x3_6 e9 => ?_)
  have hw := hw x3_6 e9
  refine aw_istore_n (pc := 6) C dX7_distance_6 rfl (by rw [hml]; decide) ?_
  refine aw_aload_n (pc := 7) C dX7_distance_7 rfl rfl ?_
  obtain ⟨hp9, b8, hb9, hw⟩ := hw
  refine aw_getR (pc := 8) C (ci := 7) (k := 7) ci7 (by decide) tw799 dX7_distance_8 rfl hp9 hb9 ?_
  refine aw_bipush (pc := 11) C dX7_distance_11 (i := (40 : Int)) (by decide) ?_
  refine aw_iload_n (pc := 13) C dX7_distance_13 rfl rfl ?_
  obtain ⟨hp9, hw⟩ := hw
  refine aw_iadd (pc := 14) C dX7_distance_14 hp9 ?_
  obtain ⟨⟨k9, hp9⟩, hw⟩ := hw
  refine aw_iald (pc := 15) C dX7_distance_15 hp9 ?_
  refine aw_nmI (fun x4_16 e9 => ?_)
  have hw := hw x4_16 e9
  refine aw_istore (pc := 16) C dX7_distance_16 (by rw [hml]; decide) ?_
  refine aw_iload_n (pc := 18) C dX7_distance_18 rfl rfl ?_
  refine aw_bipush (pc := 19) C dX7_distance_19 (i := (16 : Int)) (by decide) ?_
  obtain ⟨hp9, hw⟩ := hw
  refine aw_irem (pc := 21) C dX7_distance_21 hp9 ?_
  refine aw_iload (pc := 22) C dX7_distance_22 rfl ?_
  refine aw_bipush (pc := 24) C dX7_distance_24 (i := (16 : Int)) (by decide) ?_
  obtain ⟨hp9, hw⟩ := hw
  refine aw_irem (pc := 26) C dX7_distance_26 hp9 ?_
  obtain ⟨hp9, hw⟩ := hw
  refine aw_isub (pc := 27) C dX7_distance_27 hp9 ?_
  refine aw_callS (pc := 28) (as := [vI ((x3_6 % (16 : Int)) - (x4_16 % (16 : Int)))]) C (fun As hA => met_X7_size G l As ((x3_6 % (16 : Int)) - (x4_16 % (16 : Int))) _ _ hA hw) tw942 tw943 tw10 tw944 ⟨rfl, rfl⟩ ⟨by decide, by decide, pd_X7_size⟩ ⟨Nat.le_of_ble_eq_true rfl, Nat.le_of_ble_eq_true rfl⟩ ⟨Nat.zero_le _, Nat.zero_le _⟩ (Nat.le_of_ble_eq_true rfl) dX7_distance_28 rfl (fun v9 h28 hq9 => ?_)
  obtain ⟨r28, rfl, hw⟩ := hq9
  refine aw_aload_n (pc := 31) C dX7_distance_31 rfl rfl ?_
  refine aw_iconst (pc := 32) C dX7_distance_32 (i := (0 : Int)) (by decide) ?_
  obtain ⟨hp9, hw⟩ := hw
  refine aw_callV (pc := 33) (as := [vI (0 : Int)]) C ci7 (fun As hA => met_X7_of G l As a0 (0 : Int) _ _ hA hw) tw945 tw947 (tbp 46 (n := 21) (by decide +kernel)) tw10 tw948 ⟨rfl, rfl⟩ ⟨rfl, by decide, by decide, pd_X7_of⟩ ⟨Nat.le_of_ble_eq_true rfl, Nat.le_of_ble_eq_true rfl⟩ ⟨Nat.zero_le _, Nat.zero_le _⟩ (Nat.le_of_ble_eq_true rfl) dX7_distance_33 rfl hp9 (fun v9 h33 hq9 => ?_)
  obtain ⟨r33, rfl, hw⟩ := hq9
  refine aw_iload_n (pc := 36) C dX7_distance_36 rfl rfl ?_
  refine aw_bipush (pc := 37) C dX7_distance_37 (i := (16 : Int)) (by decide) ?_
  obtain ⟨hp9, hw⟩ := hw
  refine aw_idiv (pc := 39) C dX7_distance_39 hp9 ?_
  refine aw_iload (pc := 40) C dX7_distance_40 rfl ?_
  refine aw_bipush (pc := 42) C dX7_distance_42 (i := (16 : Int)) (by decide) ?_
  obtain ⟨hp9, hw⟩ := hw
  refine aw_idiv (pc := 44) C dX7_distance_44 hp9 ?_
  obtain ⟨hp9, hw⟩ := hw
  refine aw_isub (pc := 45) C dX7_distance_45 hp9 ?_
  refine aw_callS (pc := 46) (as := [vI ((x3_6 / (16 : Int)) - (x4_16 / (16 : Int)))]) C (fun As hA => met_X7_size G l As ((x3_6 / (16 : Int)) - (x4_16 / (16 : Int))) _ _ hA hw) tw942 tw943 tw10 tw944 ⟨rfl, rfl⟩ ⟨by decide, by decide, pd_X7_size⟩ ⟨Nat.le_of_ble_eq_true rfl, Nat.le_of_ble_eq_true rfl⟩ ⟨Nat.zero_le _, Nat.zero_le _⟩ (Nat.le_of_ble_eq_true rfl) dX7_distance_46 rfl (fun v9 h46 hq9 => ?_)
  obtain ⟨r46, rfl, hw⟩ := hq9
  obtain ⟨hp9, hw⟩ := hw
  refine aw_imul (pc := 49) C dX7_distance_49 hp9 ?_
  obtain ⟨hp9, hw⟩ := hw
  refine aw_iadd (pc := 50) C dX7_distance_50 hp9 ?_
  exact aw_iret (pc := 51) C hr dX7_distance_51 ⟨Nat.le_of_ble_eq_true rfl, Nat.le_of_ble_eq_true rfl⟩ ⟨_, rfl, hw⟩
theorem dX7_areEqual_0 : decode cX7_areEqual 0 = .ok (.aload_n 0, 1) := by decide +kernel
theorem dX7_areEqual_1 : decode cX7_areEqual 1 = .ok (.getfield 25, 3) := by decide +kernel
theorem dX7_areEqual_4 : decode cX7_areEqual 4 = .ok (.iload_n 1, 1) := by decide +kernel
theorem dX7_areEqual_5 : decode cX7_areEqual 5 = .ok (.iaload, 1) := by decide +kernel
theorem dX7_areEqual_6 : decode cX7_areEqual 6 = .ok (.aload_n 0, 1) := by decide +kernel
theorem dX7_areEqual_7 : decode cX7_areEqual 7 = .ok (.getfield 25, 3) := by decide +kernel
theorem dX7_areEqual_10 : decode cX7_areEqual 10 = .ok (.bipush 40, 2) := by decide +kernel
theorem dX7_areEqual_12 : decode cX7_areEqual 12 = .ok (.iload_n 2, 1) := by decide +kernel
theorem dX7_areEqual_13 : decode cX7_areEqual 13 = .ok (.iadd, 1) := by decide +kernel
theorem dX7_areEqual_14 : decode cX7_areEqual 14 = .ok (.iaload, 1) := by decide +kernel
theorem dX7_areEqual_15 : decode cX7_areEqual 15 = .ok (.if_icmp .ne 7, 3) := by decide +kernel
theorem dX7_areEqual_18 : decode cX7_areEqual 18 = .ok (.iconst 1, 1) := by decide +kernel
theorem dX7_areEqual_19 : decode cX7_areEqual 19 = .ok (.goto 4, 3) := by decide +kernel
theorem dX7_areEqual_22 : decode cX7_areEqual 22 = .ok (.iconst 0, 1) := by decide +kernel
theorem dX7_areEqual_23 : decode cX7_areEqual 23 = .ok (.ireturn, 1) := by decide +kernel
theorem pd_X7_areEqual : (parseMethodDescriptor yX7_areEqual.desc).map (fun d => d.parameters.length) = some 2 := by decide +kernel
def w_X7_areEqual (zz : Nat → Nat) (a0 : Nat) (a1 : Int) (a2 : Int) (h : AH) (Q : Int → AH → Prop) : Prop := okA h a0 7 ∧ ∃ b1 : Nat, hfR h a0 8 = some b1 ∧ okI h b1 a1 ∧ okA h a0 7 ∧ ∃ b7 : Nat, hfR h a0 8 = some b7 ∧ inR ((40 : Int) + a2) ∧ okI h b7 ((40 : Int) + a2) ∧ jn (fun (t0_23 : Int) (h_23 : AH) => (t0_23 = 0 ∨ t0_23 = 1) ∧ Q t0_23 h_23) (fun k_23 : Int → AH → Prop => ((¬ (haI h b1 a1) = (haI h b7 ((40 : Int) + a2))) → k_23 (0 : Int) h) ∧ (((haI h b1 a1) = (haI h b7 ((40 : Int) + a2))) → k_23 (1 : Int) h))
set_option maxRecDepth 100000 in
set_option maxHeartbeats 4000000 in
theorem met_X7_areEqual (G : GG) (l : Launch) : ∀ (As : List Value) (a0 : Nat) (a1 : Int) (a2 : Int) (h : AH) (Q : Int → AH → Prop), As.map ab = List.map some ([vR a0, vI a1, vI a2] : List AV) → w_X7_areEqual G.2.2 a0 a1 a2 h Q → Met l yX7_areEqual (.code yX7_areEqual cX7_areEqual 3 (some .boolean) :: xTb) ({ frames := 0, cells := 0, slots := 0, locals := 0 } : Room) (PcA G As h) (QG G (oI Q)) 0 0 (frA G) := by
  intro As a0 a1 a2 h Q hA hw
  refine met_of hA (by decide) (Nat.le_of_ble_eq_true rfl) (fun p e s m args below meth c C hml hr hnm => ?_)
  unfold w_X7_areEqual at hw
  refine aw_aload_n (pc := 0) C dX7_areEqual_0 rfl rfl ?_
  obtain ⟨hp9, b1, hb9, hw⟩ := hw
  refine aw_getR (pc := 1) C (ci := 7) (k := 8) ci7 (by decide) tw800 dX7_areEqual_1 rfl hp9 hb9 ?_
  refine aw_iload_n (pc := 4) C dX7_areEqual_4 rfl rfl ?_
  obtain ⟨⟨k9, hp9⟩, hw⟩ := hw
  refine aw_iald (pc := 5) C dX7_areEqual_5 hp9 ?_
  refine aw_aload_n (pc := 6) C dX7_areEqual_6 rfl rfl ?_
  obtain ⟨hp9, b7, hb9, hw⟩ := hw
  refine aw_getR (pc := 7) C (ci := 7) (k := 8) ci7 (by decide) tw800 dX7_areEqual_7 rfl hp9 hb9 ?_
  refine aw_bipush (pc := 10) C dX7_areEqual_10 (i := (40 : Int)) (by decide) ?_
  refine aw_iload_n (pc := 12) C dX7_areEqual_12 rfl rfl ?_
  obtain ⟨hp9, hw⟩ := hw
  refine aw_iadd (pc := 13) C dX7_areEqual_13 hp9 ?_
  obtain ⟨⟨k9, hp9⟩, hw⟩ := hw
  refine aw_iald (pc := 14) C dX7_areEqual_14 hp9 ?_
  obtain ⟨k_23, hk_23, hw⟩ := jn_out hw
  have J_23 : ∀ (t0_23 : Int) (h_23 : AH), k_23 t0_23 h_23 → AW G p l e ({ frames := 0, cells := 0, slots := 0, locals := 0 } : Room) s m args below meth c 0 0 (MQ below (QG G (oI Q)) args s 0 0 (frA G)) 23 (eOf []) [vI t0_23] h_23 := by
    intro t0_23 h_23 hw
    rw [hk_23] at hw
    obtain ⟨hp9, hw⟩ := hw
    exact aw_zret (pc := 23) C hr dX7_areEqual_23 ⟨Nat.le_of_ble_eq_true rfl, Nat.le_of_ble_eq_true rfl⟩ hp9 ⟨_, rfl, hw⟩
  refine aw_icmp_ne (pc := 15) (tgt := 22) C dX7_areEqual_15 (by decide) (fun hc9 => ?_) (fun hc9 => ?_)
  · have hw := hw.1 hc9
    refine aw_iconst (pc := 22) C dX7_areEqual_22 (i := (0 : Int)) (by decide) ?_
    refine aw_sub [] trivial ?_
    exact J_23 _ _ hw
  · have hw := hw.2 hc9
    refine aw_iconst (pc := 18) C dX7_areEqual_18 (i := (1 : Int)) (by decide) ?_
    refine aw_goto (pc := 19) (tgt := 23) C dX7_areEqual_19 (by decide) ?_
    refine aw_sub [] trivial ?_
    exact J_23 _ _ hw
theorem dX7_layCommon_0 : decode cX7_layCommon 0 = .ok (.iconst 0, 1) := by decide +kernel
theorem dX7_layCommon_1 : decode cX7_layCommon 1 = .ok (.istore_n 1, 1) := by decide +kernel
theorem dX7_layCommon_2 : decode cX7_layCommon 2 = .ok (.iload_n 1, 1) := by decide +kernel
theorem dX7_layCommon_3 : decode cX7_layCommon 3 = .ok (.sipush 1681, 3) := by decide +kernel
theorem dX7_layCommon_6 : decode cX7_layCommon 6 = .ok (.if_icmp .ge 16, 3) := by decide +kernel
theorem dX7_layCommon_9 : decode cX7_layCommon 9 = .ok (.aload_n 0, 1) := by decide +kernel
theorem dX7_layCommon_10 : decode cX7_layCommon 10 = .ok (.getfield 34, 3) := by decide +kernel
theorem dX7_layCommon_13 : decode cX7_layCommon 13 = .ok (.iload_n 1, 1) := by decide +kernel
theorem dX7_layCommon_14 : decode cX7_layCommon 14 = .ok (.iconst 0, 1) := by decide +kernel
theorem dX7_layCommon_15 : decode cX7_layCommon 15 = .ok (.iastore, 1) := by decide +kernel
theorem dX7_layCommon_16 : decode cX7_layCommon 16 = .ok (.iinc 1 1, 3) := by decide +kernel
theorem dX7_layCommon_19 : decode cX7_layCommon 19 = .ok (.goto (-17), 3) := by decide +kernel
theorem dX7_layCommon_22 : decode cX7_layCommon 22 = .ok (.aload_n 0, 1) := by decide +kernel
theorem dX7_layCommon_23 : decode cX7_layCommon 23 = .ok (.getfield 19, 3) := by decide +kernel
theorem dX7_layCommon_26 : decode cX7_layCommon 26 = .ok (.iconst 0, 1) := by decide +kernel
theorem dX7_layCommon_27 : decode cX7_layCommon 27 = .ok (.iaload, 1) := by decide +kernel
theorem dX7_layCommon_28 : decode cX7_layCommon 28 = .ok (.iconst 1, 1) := by decide +kernel
theorem dX7_layCommon_29 : decode cX7_layCommon 29 = .ok (.isub, 1) := by decide +kernel
theorem dX7_layCommon_30 : decode cX7_layCommon 30 = .ok (.istore_n 1, 1) := by decide +kernel
theorem dX7_layCommon_31 : decode cX7_layCommon 31 = .ok (.iload_n 1, 1) := by decide +kernel
theorem dX7_layCommon_32 : decode cX7_layCommon 32 = .ok (.ifCond .lt 143, 3) := by decide +kernel
theorem dX7_layCommon_35 : decode cX7_layCommon 35 = .ok (.aload_n 0, 1) := by decide +kernel
theorem dX7_layCommon_36 : decode cX7_layCommon 36 = .ok (.getfield 19, 3) := by decide +kernel
theorem dX7_layCommon_39 : decode cX7_layCommon 39 = .ok (.iconst 1, 1) := by decide +kernel
theorem dX7_layCommon_40 : decode cX7_layCommon 40 = .ok (.iaload, 1) := by decide +kernel
theorem dX7_layCommon_41 : decode cX7_layCommon 41 = .ok (.iconst 1, 1) := by decide +kernel
theorem dX7_layCommon_42 : decode cX7_layCommon 42 = .ok (.isub, 1) := by decide +kernel
theorem dX7_layCommon_43 : decode cX7_layCommon 43 = .ok (.istore_n 2, 1) := by decide +kernel
theorem dX7_layCommon_44 : decode cX7_layCommon 44 = .ok (.iload_n 2, 1) := by decide +kernel
theorem dX7_layCommon_45 : decode cX7_layCommon 45 = .ok (.ifCond .lt 124, 3) := by decide +kernel
theorem dX7_layCommon_48 : decode cX7_layCommon 48 = .ok (.aload_n 0, 1) := by decide +kernel
theorem dX7_layCommon_49 : decode cX7_layCommon 49 = .ok (.getfield 34, 3) := by decide +kernel
theorem dX7_layCommon_52 : decode cX7_layCommon 52 = .ok (.bipush 41, 2) := by decide +kernel
theorem dX7_layCommon_54 : decode cX7_layCommon 54 = .ok (.iload_n 1, 1) := by decide +kernel
theorem dX7_layCommon_55 : decode cX7_layCommon 55 = .ok (.imul, 1) := by decide +kernel
theorem dX7_layCommon_56 : decode cX7_layCommon 56 = .ok (.bipush 41, 2) := by decide +kernel
theorem dX7_layCommon_58 : decode cX7_layCommon 58 = .ok (.iadd, 1) := by decide +kernel
theorem dX7_layCommon_59 : decode cX7_layCommon 59 = .ok (.iload_n 2, 1) := by decide +kernel
theorem dX7_layCommon_60 : decode cX7_layCommon 60 = .ok (.iadd, 1) := by decide +kernel
theorem dX7_layCommon_61 : decode cX7_layCommon 61 = .ok (.iaload, 1) := by decide +kernel
theorem dX7_layCommon_62 : decode cX7_layCommon 62 = .ok (.aload_n 0, 1) := by decide +kernel
theorem dX7_layCommon_63 : decode cX7_layCommon 63 = .ok (.getfield 34, 3) := by decide +kernel
theorem dX7_layCommon_66 : decode cX7_layCommon 66 = .ok (.bipush 41, 2) := by decide +kernel
theorem dX7_layCommon_68 : decode cX7_layCommon 68 = .ok (.iload_n 1, 1) := by decide +kernel
theorem dX7_layCommon_69 : decode cX7_layCommon 69 = .ok (.imul, 1) := by decide +kernel
theorem dX7_layCommon_70 : decode cX7_layCommon 70 = .ok (.iload_n 2, 1) := by decide +kernel
theorem dX7_layCommon_71 : decode cX7_layCommon 71 = .ok (.iadd, 1) := by decide +kernel
theorem dX7_layCommon_72 : decode cX7_layCommon 72 = .ok (.iconst 1, 1) := by decide +kernel
theorem dX7_layCommon_73 : decode cX7_layCommon 73 = .ok (.iadd, 1) := by decide +kernel
theorem dX7_layCommon_74 : decode cX7_layCommon 74 = .ok (.iaload, 1) := by decide +kernel
theorem dX7_layCommon_75 : decode cX7_layCommon 75 = .ok (.if_icmp .le 20, 3) := by decide +kernel
theorem dX7_layCommon_78 : decode cX7_layCommon 78 = .ok (.aload_n 0, 1) := by decide +kernel
theorem dX7_layCommon_79 : decode cX7_layCommon 79 = .ok (.getfield 34, 3) := by decide +kernel
theorem dX7_layCommon_82 : decode cX7_layCommon 82 = .ok (.bipush 41, 2) := by decide +kernel
theorem dX7_layCommon_84 : decode cX7_layCommon 84 = .ok (.iload_n 1, 1) := by decide +kernel
theorem dX7_layCommon_85 : decode cX7_layCommon 85 = .ok (.imul, 1) := by decide +kernel
theorem dX7_layCommon_86 : decode cX7_layCommon 86 = .ok (.bipush 41, 2) := by decide +kernel
theorem dX7_layCommon_88 : decode cX7_layCommon 88 = .ok (.iadd, 1) := by decide +kernel
theorem dX7_layCommon_89 : decode cX7_layCommon 89 = .ok (.iload_n 2, 1) := by decide +kernel
theorem dX7_layCommon_90 : decode cX7_layCommon 90 = .ok (.iadd, 1) := by decide +kernel
theorem dX7_layCommon_91 : decode cX7_layCommon 91 = .ok (.iaload, 1) := by decide +kernel
theorem dX7_layCommon_92 : decode cX7_layCommon 92 = .ok (.goto 16, 3) := by decide +kernel
theorem dX7_layCommon_95 : decode cX7_layCommon 95 = .ok (.aload_n 0, 1) := by decide +kernel
theorem dX7_layCommon_96 : decode cX7_layCommon 96 = .ok (.getfield 34, 3) := by decide +kernel
theorem dX7_layCommon_99 : decode cX7_layCommon 99 = .ok (.bipush 41, 2) := by decide +kernel
theorem dX7_layCommon_101 : decode cX7_layCommon 101 = .ok (.iload_n 1, 1) := by decide +kernel
theorem dX7_layCommon_102 : decode cX7_layCommon 102 = .ok (.imul, 1) := by decide +kernel
theorem dX7_layCommon_103 : decode cX7_layCommon 103 = .ok (.iload_n 2, 1) := by decide +kernel
theorem dX7_layCommon_104 : decode cX7_layCommon 104 = .ok (.iadd, 1) := by decide +kernel
theorem dX7_layCommon_105 : decode cX7_layCommon 105 = .ok (.iconst 1, 1) := by decide +kernel
theorem dX7_layCommon_106 : decode cX7_layCommon 106 = .ok (.iadd, 1) := by decide +kernel
theorem dX7_layCommon_107 : decode cX7_layCommon 107 = .ok (.iaload, 1) := by decide +kernel
theorem dX7_layCommon_108 : decode cX7_layCommon 108 = .ok (.istore_n 3, 1) := by decide +kernel
theorem dX7_layCommon_109 : decode cX7_layCommon 109 = .ok (.aload_n 0, 1) := by decide +kernel
theorem dX7_layCommon_110 : decode cX7_layCommon 110 = .ok (.iload_n 1, 1) := by decide +kernel
theorem dX7_layCommon_111 : decode cX7_layCommon 111 = .ok (.iload_n 2, 1) := by decide +kernel
theorem dX7_layCommon_112 : decode cX7_layCommon 112 = .ok (.invokevirtual 76, 3) := by decide +kernel
theorem dX7_layCommon_115 : decode cX7_layCommon 115 = .ok (.ifCond .eq 22, 3) := by decide +kernel
theorem dX7_layCommon_118 : decode cX7_layCommon 118 = .ok (.aload_n 0, 1) := by decide +kernel
theorem dX7_layCommon_119 : decode cX7_layCommon 119 = .ok (.getfield 34, 3) := by decide +kernel
theorem dX7_layCommon_122 : decode cX7_layCommon 122 = .ok (.bipush 41, 2) := by decide +kernel
theorem dX7_layCommon_124 : decode cX7_layCommon 124 = .ok (.iload_n 1, 1) := by decide +kernel
theorem dX7_layCommon_125 : decode cX7_layCommon 125 = .ok (.imul, 1) := by decide +kernel
theorem dX7_layCommon_126 : decode cX7_layCommon 126 = .ok (.bipush 42, 2) := by decide +kernel
theorem dX7_layCommon_128 : decode cX7_layCommon 128 = .ok (.iadd, 1) := by decide +kernel
theorem dX7_layCommon_129 : decode cX7_layCommon 129 = .ok (.iload_n 2, 1) := by decide +kernel
theorem dX7_layCommon_130 : decode cX7_layCommon 130 = .ok (.iadd, 1) := by decide +kernel
theorem dX7_layCommon_131 : decode cX7_layCommon 131 = .ok (.iaload, 1) := by decide +kernel
theorem dX7_layCommon_132 : decode cX7_layCommon 132 = .ok (.iconst 1, 1) := by decide +kernel
theorem dX7_layCommon_133 : decode cX7_layCommon 133 = .ok (.iadd, 1) := by decide +kernel
theorem dX7_layCommon_134 : decode cX7_layCommon 134 = .ok (.goto 4, 3) := by decide +kernel
theorem dX7_layCommon_137 : decode cX7_layCommon 137 = .ok (.iconst 0, 1) := by decide +kernel
theorem dX7_layCommon_138 : decode cX7_layCommon 138 = .ok (.istore 4, 2) := by decide +kernel
theorem dX7_layCommon_140 : decode cX7_layCommon 140 = .ok (.aload_n 0, 1) := by decide +kernel
theorem dX7_layCommon_141 : decode cX7_layCommon 141 = .ok (.getfield 34, 3) := by decide +kernel
theorem dX7_layCommon_144 : decode cX7_layCommon 144 = .ok (.bipush 41, 2) := by decide +kernel
theorem dX7_layCommon_146 : decode cX7_layCommon 146 = .ok (.iload_n 1, 1) := by decide +kernel
theorem dX7_layCommon_147 : decode cX7_layCommon 147 = .ok (.imul, 1) := by decide +kernel
theorem dX7_layCommon_148 : decode cX7_layCommon 148 = .ok (.iload_n 2, 1) := by decide +kernel
theorem dX7_layCommon_149 : decode cX7_layCommon 149 = .ok (.iadd, 1) := by decide +kernel
theorem dX7_layCommon_150 : decode cX7_layCommon 150 = .ok (.iload 4, 2) := by decide +kernel
theorem dX7_layCommon_152 : decode cX7_layCommon 152 = .ok (.iload_n 3, 1) := by decide +kernel
theorem dX7_layCommon_153 : decode cX7_layCommon 153 = .ok (.if_icmp .le 8, 3) := by decide +kernel
theorem dX7_layCommon_156 : decode cX7_layCommon 156 = .ok (.iload 4, 2) := by decide +kernel
theorem dX7_layCommon_158 : decode cX7_layCommon 158 = .ok (.goto 4, 3) := by decide +kernel
theorem dX7_layCommon_161 : decode cX7_layCommon 161 = .ok (.iload_n 3, 1) := by decide +kernel
theorem dX7_layCommon_162 : decode cX7_layCommon 162 = .ok (.iastore, 1) := by decide +kernel
theorem dX7_layCommon_163 : decode cX7_layCommon 163 = .ok (.iinc 2 (-1), 3) := by decide +kernel
theorem dX7_layCommon_166 : decode cX7_layCommon 166 = .ok (.goto (-122), 3) := by decide +kernel
theorem dX7_layCommon_169 : decode cX7_layCommon 169 = .ok (.iinc 1 (-1), 3) := by decide +kernel
theorem dX7_layCommon_172 : decode cX7_layCommon 172 = .ok (.goto (-141), 3) := by decide +kernel
theorem dX7_layCommon_175 : decode cX7_layCommon 175 = .ok (.iconst 0, 1) := by decide +kernel
theorem dX7_layCommon_176 : decode cX7_layCommon 176 = .ok (.istore_n 1, 1) := by decide +kernel
theorem dX7_layCommon_177 : decode cX7_layCommon 177 = .ok (.iconst 0, 1) := by decide +kernel
theorem dX7_layCommon_178 : decode cX7_layCommon 178 = .ok (.istore_n 2, 1) := by decide +kernel
theorem dX7_layCommon_179 : decode cX7_layCommon 179 = .ok (.iload_n 2, 1) := by decide +kernel
theorem dX7_layCommon_180 : decode cX7_layCommon 180 = .ok (.aload_n 0, 1) := by decide +kernel
theorem dX7_layCommon_181 : decode cX7_layCommon 181 = .ok (.getfield 19, 3) := by decide +kernel
theorem dX7_layCommon_184 : decode cX7_layCommon 184 = .ok (.iconst 0, 1) := by decide +kernel
theorem dX7_layCommon_185 : decode cX7_layCommon 185 = .ok (.iaload, 1) := by decide +kernel
theorem dX7_layCommon_186 : decode cX7_layCommon 186 = .ok (.if_icmp .ge 100, 3) := by decide +kernel
theorem dX7_layCommon_189 : decode cX7_layCommon 189 = .ok (.aload_n 0, 1) := by decide +kernel
theorem dX7_layCommon_190 : decode cX7_layCommon 190 = .ok (.getfield 34, 3) := by decide +kernel
theorem dX7_layCommon_193 : decode cX7_layCommon 193 = .ok (.bipush 41, 2) := by decide +kernel
theorem dX7_layCommon_195 : decode cX7_layCommon 195 = .ok (.iload_n 2, 1) := by decide +kernel
theorem dX7_layCommon_196 : decode cX7_layCommon 196 = .ok (.imul, 1) := by decide +kernel
theorem dX7_layCommon_197 : decode cX7_layCommon 197 = .ok (.iload_n 1, 1) := by decide +kernel
theorem dX7_layCommon_198 : decode cX7_layCommon 198 = .ok (.iadd, 1) := by decide +kernel
theorem dX7_layCommon_199 : decode cX7_layCommon 199 = .ok (.iaload, 1) := by decide +kernel
theorem dX7_layCommon_200 : decode cX7_layCommon 200 = .ok (.istore_n 3, 1) := by decide +kernel
theorem dX7_layCommon_201 : decode cX7_layCommon 201 = .ok (.iconst 0, 1) := by decide +kernel
theorem dX7_layCommon_202 : decode cX7_layCommon 202 = .ok (.istore 4, 2) := by decide +kernel
theorem dX7_layCommon_204 : decode cX7_layCommon 204 = .ok (.iload_n 1, 1) := by decide +kernel
theorem dX7_layCommon_205 : decode cX7_layCommon 205 = .ok (.istore 5, 2) := by decide +kernel
theorem dX7_layCommon_207 : decode cX7_layCommon 207 = .ok (.iload 5, 2) := by decide +kernel
theorem dX7_layCommon_209 : decode cX7_layCommon 209 = .ok (.aload_n 0, 1) := by decide +kernel
theorem dX7_layCommon_210 : decode cX7_layCommon 210 = .ok (.getfield 19, 3) := by decide +kernel
theorem dX7_layCommon_213 : decode cX7_layCommon 213 = .ok (.iconst 1, 1) := by decide +kernel
theorem dX7_layCommon_214 : decode cX7_layCommon 214 = .ok (.iaload, 1) := by decide +kernel
theorem dX7_layCommon_215 : decode cX7_layCommon 215 = .ok (.if_icmp .ge 65, 3) := by decide +kernel
theorem dX7_layCommon_218 : decode cX7_layCommon 218 = .ok (.iload_n 3, 1) := by decide +kernel
theorem dX7_layCommon_219 : decode cX7_layCommon 219 = .ok (.ifCond .le 61, 3) := by decide +kernel
theorem dX7_layCommon_222 : decode cX7_layCommon 222 = .ok (.iload 4, 2) := by decide +kernel
theorem dX7_layCommon_224 : decode cX7_layCommon 224 = .ok (.ifCond .ne 56, 3) := by decide +kernel
theorem dX7_layCommon_227 : decode cX7_layCommon 227 = .ok (.aload_n 0, 1) := by decide +kernel
theorem dX7_layCommon_228 : decode cX7_layCommon 228 = .ok (.iload_n 2, 1) := by decide +kernel
theorem dX7_layCommon_229 : decode cX7_layCommon 229 = .ok (.iload 5, 2) := by decide +kernel
theorem dX7_layCommon_231 : decode cX7_layCommon 231 = .ok (.invokevirtual 76, 3) := by decide +kernel
theorem dX7_layCommon_234 : decode cX7_layCommon 234 = .ok (.ifCond .eq 40, 3) := by decide +kernel
theorem dX7_layCommon_237 : decode cX7_layCommon 237 = .ok (.aload_n 0, 1) := by decide +kernel
theorem dX7_layCommon_238 : decode cX7_layCommon 238 = .ok (.getfield 34, 3) := by decide +kernel
theorem dX7_layCommon_241 : decode cX7_layCommon 241 = .ok (.bipush 41, 2) := by decide +kernel
theorem dX7_layCommon_243 : decode cX7_layCommon 243 = .ok (.iload_n 2, 1) := by decide +kernel
theorem dX7_layCommon_244 : decode cX7_layCommon 244 = .ok (.imul, 1) := by decide +kernel
theorem dX7_layCommon_245 : decode cX7_layCommon 245 = .ok (.bipush 42, 2) := by decide +kernel
theorem dX7_layCommon_247 : decode cX7_layCommon 247 = .ok (.iadd, 1) := by decide +kernel
theorem dX7_layCommon_248 : decode cX7_layCommon 248 = .ok (.iload 5, 2) := by decide +kernel
theorem dX7_layCommon_250 : decode cX7_layCommon 250 = .ok (.iadd, 1) := by decide +kernel
theorem dX7_layCommon_251 : decode cX7_layCommon 251 = .ok (.iaload, 1) := by decide +kernel
theorem dX7_layCommon_252 : decode cX7_layCommon 252 = .ok (.iload_n 3, 1) := by decide +kernel
theorem dX7_layCommon_253 : decode cX7_layCommon 253 = .ok (.iconst 1, 1) := by decide +kernel
theorem dX7_layCommon_254 : decode cX7_layCommon 254 = .ok (.isub, 1) := by decide +kernel
theorem dX7_layCommon_255 : decode cX7_layCommon 255 = .ok (.if_icmp .ne 19, 3) := by decide +kernel
theorem dX7_layCommon_258 : decode cX7_layCommon 258 = .ok (.aload_n 0, 1) := by decide +kernel
theorem dX7_layCommon_259 : decode cX7_layCommon 259 = .ok (.iload_n 2, 1) := by decide +kernel
theorem dX7_layCommon_260 : decode cX7_layCommon 260 = .ok (.iload 5, 2) := by decide +kernel
theorem dX7_layCommon_262 : decode cX7_layCommon 262 = .ok (.iconst 1, 1) := by decide +kernel
theorem dX7_layCommon_263 : decode cX7_layCommon 263 = .ok (.invokevirtual 80, 3) := by decide +kernel
theorem dX7_layCommon_266 : decode cX7_layCommon 266 = .ok (.iload 5, 2) := by decide +kernel
theorem dX7_layCommon_268 : decode cX7_layCommon 268 = .ok (.iconst 1, 1) := by decide +kernel
theorem dX7_layCommon_269 : decode cX7_layCommon 269 = .ok (.iadd, 1) := by decide +kernel
theorem dX7_layCommon_270 : decode cX7_layCommon 270 = .ok (.istore_n 1, 1) := by decide +kernel
theorem dX7_layCommon_271 : decode cX7_layCommon 271 = .ok (.iconst 1, 1) := by decide +kernel
theorem dX7_layCommon_272 : decode cX7_layCommon 272 = .ok (.istore 4, 2) := by decide +kernel
theorem dX7_layCommon_274 : decode cX7_layCommon 274 = .ok (.iinc 5 1, 3) := by decide +kernel
theorem dX7_layCommon_277 : decode cX7_layCommon 277 = .ok (.goto (-70), 3) := by decide +kernel
theorem dX7_layCommon_280 : decode cX7_layCommon 280 = .ok (.iinc 2 1, 3) := by decide +kernel
theorem dX7_layCommon_283 : decode cX7_layCommon 283 = .ok (.goto (-104), 3) := by decide +kernel
theorem dX7_layCommon_286 : decode cX7_layCommon 286 = .ok (.return_, 1) := by decide +kernel
theorem pd_X7_layCommon : (parseMethodDescriptor yX7_layCommon.desc).map (fun d => d.parameters.length) = some 0 := by decide +kernel
def w_X7_layCommon (zz : Nat → Nat) (a0 : Nat) (h : AH) (Q : AH → Prop) : Prop := ∃ I_2 : Nat → Int → AH → Prop, (∃ n, I_2 n (0 : Int) h) ∧ ∀ (n_2 : Nat) (x1_2 : Int) (h_2 : AH), I_2 n_2 x1_2 h_2 → ((((1681 : Int) ≤ x1_2) → okA h_2 a0 7 ∧ ∃ b23 : Nat, hfR h_2 a0 6 = some b23 ∧ okI h_2 b23 (0 : Int) ∧ inR ((haI h_2 b23 (0 : Int)) - (1 : Int)) ∧ ∀ x1_30 : Int, x1_30 = ((haI h_2 b23 (0 : Int)) - (1 : Int)) → ∃ I_31 : Nat → Int → AH → Prop, (∃ n, I_31 n x1_30 h_2) ∧ ∀ (n_31 : Nat) (x1_31 : Int) (h_31 : AH), I_31 n_31 x1_31 h_31 → (((x1_31 < 0) → ∃ I_179 : Nat → Int → Int → AH → Prop, (∃ n, I_179 n (0 : Int) (0 : Int) h_31) ∧ ∀ (n_179 : Nat) (x1_179 : Int) (x2_179 : Int) (h_179 : AH), I_179 n_179 x1_179 x2_179 h_179 → (okA h_179 a0 7 ∧ ∃ b181 : Nat, hfR h_179 a0 6 = some b181 ∧ okI h_179 b181 (0 : Int) ∧ (((haI h_179 b181 (0 : Int)) ≤ x2_179) → Q h_179) ∧ ((¬ ((haI h_179 b181 (0 : Int)) ≤ x2_179)) → okA h_179 a0 7 ∧ ∃ b190 : Nat, hfR h_179 a0 11 = some b190 ∧ inR ((41 : Int) * x2_179) ∧ inR (((41 : Int) * x2_179) + x1_179) ∧ okI h_179 b190 (((41 : Int) * x2_179) + x1_179) ∧ ∀ x3_200 : Int, x3_200 = (haI h_179 b190 (((41 : Int) * x2_179) + x1_179)) → ∃ I_207 : Nat → Int → Int → Int → AH → Prop, (∃ n, I_207 n x1_179 (0 : Int) x1_179 h_179) ∧ ∀ (n_207 : Nat) (x1_207 : Int) (x4_207 : Int) (x5_207 : Int) (h_207 : AH), I_207 n_207 x1_207 x4_207 x5_207 h_207 → (okA h_207 a0 7 ∧ ∃ b210 : Nat, hfR h_207 a0 6 = some b210 ∧ okI h_207 b210 (1 : Int) ∧ jn (fun  (h_280 : AH) => inR (x2_179 + 1) ∧ ∀ x2_280 : Int, x2_280 = (x2_179 + 1) → ∃ m, m < n_179 ∧ I_179 m x1_207 x2_280 h_280) (fun k_280 : AH → Prop => (((haI h_207 b210 (1 : Int)) ≤ x5_207) → k_280  h_207) ∧ ((¬ ((haI h_207 b210 (1 : Int)) ≤ x5_207)) → ((x3_200 ≤ 0) → k_280  h_207) ∧ ((¬ (x3_200 ≤ 0)) → ((¬ x4_207 = 0) → k_280  h_207) ∧ ((x4_207 = 0) → okA h_207 a0 7 ∧ w_X7_areEqual zz a0 x2_179 x5_207 h_207 (fun (r231 : Int) (h231 : AH) => jn (fun (x1_274 : Int) (x4_274 : Int) (h_274 : AH) => inR (x5_207 + 1) ∧ ∀ x5_274 : Int, x5_274 = (x5_207 + 1) → ∃ m, m < n_207 ∧ I_207 m x1_274 x4_274 x5_274 h_274) (fun k_274 : Int → Int → AH → Prop => ((r231 = 0) → k_274 x1_207 x4_207 h231) ∧ ((¬ (r231 = 0)) → okA h231 a0 7 ∧ ∃ b238 : Nat, hfR h231 a0 11 = some b238 ∧ inR ((41 : Int) * x2_179) ∧ inR (((41 : Int) * x2_179) + (42 : Int)) ∧ inR ((((41 : Int) * x2_179) + (42 : Int)) + x5_207) ∧ okI h231 b238 ((((41 : Int) * x2_179) + (42 : Int)) + x5_207) ∧ inR (x3_200 - (1 : Int)) ∧ ((¬ (haI h231 b238 ((((41 : Int) * x2_179) + (42 : Int)) + x5_207)) = (x3_200 - (1 : Int))) → k_274 x1_207 x4_207 h231) ∧ (((haI h231 b238 ((((41 : Int) * x2_179) + (42 : Int)) + x5_207)) = (x3_200 - (1 : Int))) → okA h231 a0 7 ∧ w_X7_pair zz a0 x2_179 x5_207 (1 : Int) h231 (fun  (h263 : AH) => inR (x5_207 + (1 : Int)) ∧ ∀ x1_270 : Int, x1_270 = (x5_207 + (1 : Int)) → k_274 x1_270 (1 : Int) h263))))))))))))) ∧ ((¬ (x1_31 < 0)) → okA h_31 a0 7 ∧ ∃ b36 : Nat, hfR h_31 a0 6 = some b36 ∧ okI h_31 b36 (1 : Int) ∧ inR ((haI h_31 b36 (1 : Int)) - (1 : Int)) ∧ ∀ x2_43 : Int, x2_43 = ((haI h_31 b36 (1 : Int)) - (1 : Int)) → ∃ I_44 : Nat → Int → AH → Prop, (∃ n, I_44 n x2_43 h_31) ∧ ∀ (n_44 : Nat) (x2_44 : Int) (h_44 : AH), I_44 n_44 x2_44 h_44 → (((x2_44 < 0) → inR (x1_31 + (-1)) ∧ ∀ x1_169 : Int, x1_169 = (x1_31 + (-1)) → ∃ m, m < n_31 ∧ I_31 m x1_169 h_44) ∧ ((¬ (x2_44 < 0)) → okA h_44 a0 7 ∧ ∃ b49 : Nat, hfR h_44 a0 11 = some b49 ∧ inR ((41 : Int) * x1_31) ∧ inR (((41 : Int) * x1_31) + (41 : Int)) ∧ inR ((((41 : Int) * x1_31) + (41 : Int)) + x2_44) ∧ okI h_44 b49 ((((41 : Int) * x1_31) + (41 : Int)) + x2_44) ∧ okA h_44 a0 7 ∧ ∃ b63 : Nat, hfR h_44 a0 11 = some b63 ∧ inR ((41 : Int) * x1_31) ∧ inR (((41 : Int) * x1_31) + x2_44) ∧ inR ((((41 : Int) * x1_31) + x2_44) + (1 : Int)) ∧ okI h_44 b63 ((((41 : Int) * x1_31) + x2_44) + (1 : Int)) ∧ jn (fun (t0_108 : Int) (h_108 : AH) => okA h_108 a0 7 ∧ w_X7_areEqual zz a0 x1_31 x2_44 h_108 (fun (r112 : Int) (h112 : AH) => jn (fun (t0_138 : Int) (h_138 : AH) => okA h_138 a0 7 ∧ ∃ b141 : Nat, hfR h_138 a0 11 = some b141 ∧ inR ((41 : Int) * x1_31) ∧ inR (((41 : Int) * x1_31) + x2_44) ∧ jn (fun (t2_162 : Int) (h_162 : AH) => okW h_162 b141 (((41 : Int) * x1_31) + x2_44) ∧ ∀ h162 : AH, h162 = saI h_162 b141 (u1 (haI h_162 b141) (((41 : Int) * x1_31) + x2_44) t2_162) → inR (x2_44 + (-1)) ∧ ∀ x2_163 : Int, x2_163 = (x2_44 + (-1)) → ∃ m, m < n_44 ∧ I_44 m x2_163 h162) (fun k_162 : Int → AH → Prop => ((t0_138 ≤ t0_108) → k_162 t0_108 h_138) ∧ ((¬ (t0_138 ≤ t0_108)) → k_162 t0_138 h_138))) (fun k_138 : Int → AH → Prop => ((r112 = 0) → k_138 (0 : Int) h112) ∧ ((¬ (r112 = 0)) → okA h112 a0 7 ∧ ∃ b119 : Nat, hfR h112 a0 11 = some b119 ∧ inR ((41 : Int) * x1_31) ∧ inR (((41 : Int) * x1_31) + (42 : Int)) ∧ inR ((((41 : Int) * x1_31) + (42 : Int)) + x2_44) ∧ okI h112 b119 ((((41 : Int) * x1_31) + (42 : Int)) + x2_44) ∧ inR ((haI h112 b119 ((((41 : Int) * x1_31) + (42 : Int)) + x2_44)) + (1 : Int)) ∧ k_138 ((haI h112 b119 ((((41 : Int) * x1_31) + (42 : Int)) + x2_44)) + (1 : Int)) h112)))) (fun k_108 : Int → AH → Prop => (((haI h_44 b49 ((((41 : Int) * x1_31) + (41 : Int)) + x2_44)) ≤ (haI h_44 b63 ((((41 : Int) * x1_31) + x2_44) + (1 : Int)))) → okA h_44 a0 7 ∧ ∃ b96 : Nat, hfR h_44 a0 11 = some b96 ∧ inR ((41 : Int) * x1_31) ∧ inR (((41 : Int) * x1_31) + x2_44) ∧ inR ((((41 : Int) * x1_31) + x2_44) + (1 : Int)) ∧ okI h_44 b96 ((((41 : Int) * x1_31) + x2_44) + (1 : Int)) ∧ k_108 (haI h_44 b96 ((((41 : Int) * x1_31) + x2_44) + (1 : Int))) h_44) ∧ ((¬ ((haI h_44 b49 ((((41 : Int) * x1_31) + (41 : Int)) + x2_44)) ≤ (haI h_44 b63 ((((41 : Int) * x1_31) + x2_44) + (1 : Int))))) → okA h_44 a0 7 ∧ ∃ b79 : Nat, hfR h_44 a0 11 = some b79 ∧ inR ((41 : Int) * x1_31) ∧ inR (((41 : Int) * x1_31) + (41 : Int)) ∧ inR ((((41 : Int) * x1_31) + (41 : Int)) + x2_44) ∧ okI h_44 b79 ((((41 : Int) * x1_31) + (41 : Int)) + x2_44) ∧ k_108 (haI h_44 b79 ((((41 : Int) * x1_31) + (41 : Int)) + x2_44)) h_44))))))) ∧ ((¬ ((1681 : Int) ≤ x1_2)) → okA h_2 a0 7 ∧ ∃ b10 : Nat, hfR h_2 a0 11 = some b10 ∧ okW h_2 b10 x1_2 ∧ ∀ h15 : AH, h15 = saI h_2 b10 (u1 (haI h_2 b10) x1_2 (0 : Int)) → inR (x1_2 + 1) ∧ ∀ x1_16 : Int, x1_16 = (x1_2 + 1) → ∃ m, m < n_2 ∧ I_2 m x1_16 h15))
set_option maxRecDepth 100000 in
set_option maxHeartbeats 4000000 in
theorem met_X7_layCommon (G : GG) (l : Launch) : ∀ (As : List Value) (a0 : Nat) (h : AH) (Q : AH → Prop), As.map ab = List.map some ([vR a0] : List AV) → w_X7_layCommon G.2.2 a0 h Q → Met l yX7_layCommon (.code yX7_layCommon cX7_layCommon 6 none :: xTb) ({ frames := 1, cells := 0, slots := 0, locals := 23 } : Room) (PcA G As h) (QG G (oV Q)) 0 0 (frA G) := by
  intro As a0 h Q hA hw
  refine met_of hA (by decide) (Nat.le_of_ble_eq_true rfl) (fun p e s m args below meth c C hml hr hnm => ?_)
  unfold w_X7_layCommon at hw
  refine aw_iconst (pc := 0) C dX7_layCommon_0 (i := (0 : Int)) (by decide) ?_
  refine aw_istore_n (pc := 1) C dX7_layCommon_1 rfl (by rw [hml]; decide) ?_
  obtain ⟨I_2, ⟨n9, hi9⟩, hst9⟩ := hw
  have L_2 : ∀ (n_2 : Nat) (x1_2 : Int) (h_2 : AH), I_2 n_2 x1_2 h_2 → AW G p l e ({ frames := 1, cells := 0, slots := 0, locals := 23 } : Room) s m args below meth c 0 0 (MQ below (QG G (oV Q)) args s 0 0 (frA G)) 2 (eOf [(0, vR a0), (1, vI x1_2)]) [] h_2 := by
    intro n_2
    induction n_2 using Nat.strongRecOn with
    | _ n_2 ih_2 =>
    intro x1_2 h_2 hi9
    have hw := hst9 n_2 x1_2 h_2 hi9
    refine aw_iload_n (pc := 2) C dX7_layCommon_2 rfl rfl ?_
    refine aw_sipush (pc := 3) C dX7_layCommon_3 (i := (1681 : Int)) (by decide) ?_
    refine aw_icmp_ge (pc := 6) (tgt := 22) C dX7_layCommon_6 (by decide) (fun hc9 => ?_) (fun hc9 => ?_)
    · have hw := hw.1 hc9
      refine aw_aload_n (pc := 22) C dX7_layCommon_22 rfl rfl ?_
      obtain ⟨hp9, b23, hb9, hw⟩ := hw
      refine aw_getR (pc := 23) C (ci := 7) (k := 6) ci7 (by decide) tw798 dX7_layCommon_23 rfl hp9 hb9 ?_
      refine aw_iconst (pc := 26) C dX7_layCommon_26 (i := (0 : Int)) (by decide) ?_
      obtain ⟨⟨k9, hp9⟩, hw⟩ := hw
      refine aw_iald (pc := 27) C dX7_layCommon_27 hp9 ?_
      refine aw_iconst (pc := 28) C dX7_layCommon_28 (i := (1 : Int)) (by decide) ?_
      obtain ⟨hp9, hw⟩ := hw
      refine aw_isub (pc := 29) C dX7_layCommon_29 hp9 ?_
      refine aw_nmI (fun x1_30 e9 => ?_)
      have hw := hw x1_30 e9
      refine aw_istore_n (pc := 30) C dX7_layCommon_30 rfl (by rw [hml]; decide) ?_
      obtain ⟨I_31, ⟨n9, hi9⟩, hst9⟩ := hw
      have L_31 : ∀ (n_31 : Nat) (x1_31 : Int) (h_31 : AH), I_31 n_31 x1_31 h_31 → AW G p l e ({ frames := 1, cells := 0, slots := 0, locals := 23 } : Room) s m args below meth c 0 0 (MQ below (QG G (oV Q)) args s 0 0 (frA G)) 31 (eOf [(0, vR a0), (1, vI x1_31)]) [] h_31 := by
        intro n_31
        induction n_31 using Nat.strongRecOn with
        | _ n_31 ih_31 =>
        intro x1_31 h_31 hi9
        have hw := hst9 n_31 x1_31 h_31 hi9
        refine aw_iload_n (pc := 31) C dX7_layCommon_31 rfl rfl ?_
        refine aw_if_lt (pc := 32) (tgt := 175) C dX7_layCommon_32 (by decide) (fun hc9 => ?_) (fun hc9 => ?_)
        · have hw := hw.1 hc9
          refine aw_iconst (pc := 175) C dX7_layCommon_175 (i := (0 : Int)) (by decide) ?_
          refine aw_istore_n (pc := 176) C dX7_layCommon_176 rfl (by rw [hml]; decide) ?_
          refine aw_iconst (pc := 177) C dX7_layCommon_177 (i := (0 : Int)) (by decide) ?_
          refine aw_istore_n (pc := 178) C dX7_layCommon_178 rfl (by rw [hml]; decide) ?_
          obtain ⟨I_179, ⟨n9, hi9⟩, hst9⟩ := hw
          have L_179 : ∀ (n_179 : Nat) (x1_179 : Int) (x2_179 : Int) (h_179 : AH), I_179 n_179 x1_179 x2_179 h_179 → AW G p l e ({ frames := 1, cells := 0, slots := 0, locals := 23 } : Room) s m args below meth c 0 0 (MQ below (QG G (oV Q)) args s 0 0 (frA G)) 179 (eOf [(0, vR a0), (1, vI x1_179), (2, vI x2_179)]) [] h_179 := by
            intro n_179
            induction n_179 using Nat.strongRecOn with
            | _ n_179 ih_179 =>
            intro x1_179 x2_179 h_179 hi9
            have hw := hst9 n_179 x1_179 x2_179 h_179 hi9
            refine aw_iload_n (pc := 179) C dX7_layCommon_179 rfl rfl ?_
            refine aw_aload_n (pc := 180) C dX7_layCommon_180 rfl rfl ?_
            obtain ⟨hp9, b181, hb9, hw⟩ := hw
            refine aw_getR (pc := 181) C (ci := 7) (k := 6) ci7 (by decide) tw798 dX7_layCommon_181 rfl hp9 hb9 ?_
            refine aw_iconst (pc := 184) C dX7_layCommon_184 (i := (0 : Int)) (by decide) ?_
            obtain ⟨⟨k9, hp9⟩, hw⟩ := hw
            refine aw_iald (pc := 185) C dX7_layCommon_185 hp9 ?_
            refine aw_icmp_ge (pc := 186) (tgt := 286) C dX7_layCommon_186 (by decide) (fun hc9 => ?_) (fun hc9 => ?_)
            · have hw := hw.1 hc9
              exact aw_vret (pc := 286) C hr dX7_layCommon_286 ⟨Nat.le_of_ble_eq_true rfl, Nat.le_of_ble_eq_true rfl⟩ ⟨rfl, hw⟩
            · have hw := hw.2 hc9
              refine aw_aload_n (pc := 189) C dX7_layCommon_189 rfl rfl ?_
              obtain ⟨hp9, b190, hb9, hw⟩ := hw
              refine aw_getR (pc := 190) C (ci := 7) (k := 11) ci7 (by decide) tw803 dX7_layCommon_190 rfl hp9 hb9 ?_
              refine aw_bipush (pc := 193) C dX7_layCommon_193 (i := (41 : Int)) (by decide) ?_
              refine aw_iload_n (pc := 195) C dX7_layCommon_195 rfl rfl ?_
              obtain ⟨hp9, hw⟩ := hw
              refine aw_imul (pc := 196) C dX7_layCommon_196 hp9 ?_
              refine aw_iload_n (pc := 197) C dX7_layCommon_197 rfl rfl ?_
              obtain ⟨hp9, hw⟩ := hw
              refine aw_iadd (pc := 198) C dX7_layCommon_198 hp9 ?_
              obtain ⟨⟨k9, hp9⟩, hw⟩ := hw
              refine aw_iald (pc := 199) C dX7_layCommon_199 hp9 ?_
              refine aw_nmI (fun x3_200 e9 => ?_)
              have hw := hw x3_200 e9
              refine aw_istore_n (pc := 200) C dX7_layCommon_200 rfl (by rw [hml]; decide) ?_
              refine aw_iconst (pc := 201) C dX7_layCommon_201 (i := (0 : Int)) (by decide) ?_
              refine aw_istore (pc := 202) C dX7_layCommon_202 (by rw [hml]; decide) ?_
              refine aw_iload_n (pc := 204) C dX7_layCommon_204 rfl rfl ?_
              refine aw_istore (pc := 205) C dX7_layCommon_205 (by rw [hml]; decide) ?_
              obtain ⟨I_207, ⟨n9, hi9⟩, hst9⟩ := hw
              have L_207 : ∀ (n_207 : Nat) (x1_207 : Int) (x4_207 : Int) (x5_207 : Int) (h_207 : AH), I_207 n_207 x1_207 x4_207 x5_207 h_207 → AW G p l e ({ frames := 1, cells := 0, slots := 0, locals := 23 } : Room) s m args below meth c 0 0 (MQ below (QG G (oV Q)) args s 0 0 (frA G)) 207 (eOf [(0, vR a0), (1, vI x1_207), (2, vI x2_179), (3, vI x3_200), (4, vI x4_207), (5, vI x5_207)]) [] h_207 := by
                intro n_207
                induction n_207 using Nat.strongRecOn with
                | _ n_207 ih_207 =>
                intro x1_207 x4_207 x5_207 h_207 hi9
                have hw := hst9 n_207 x1_207 x4_207 x5_207 h_207 hi9
                refine aw_iload (pc := 207) C dX7_layCommon_207 rfl ?_
                refine aw_aload_n (pc := 209) C dX7_layCommon_209 rfl rfl ?_
                obtain ⟨hp9, b210, hb9, hw⟩ := hw
                refine aw_getR (pc := 210) C (ci := 7) (k := 6) ci7 (by decide) tw798 dX7_layCommon_210 rfl hp9 hb9 ?_
                refine aw_iconst (pc := 213) C dX7_layCommon_213 (i := (1 : Int)) (by decide) ?_
                obtain ⟨⟨k9, hp9⟩, hw⟩ := hw
                refine aw_iald (pc := 214) C dX7_layCommon_214 hp9 ?_
                obtain ⟨k_280, hk_280, hw⟩ := jn_out hw
                have J_280 : ∀  (h_280 : AH), k_280  h_280 → AW G p l e ({ frames := 1, cells := 0, slots := 0, locals := 23 } : Room) s m args below meth c 0 0 (MQ below (QG G (oV Q)) args s 0 0 (frA G)) 280 (eOf [(0, vR a0), (1, vI x1_207), (2, vI x2_179)]) [] h_280 := by
                  intro  h_280 hw
                  rw [hk_280] at hw
                  obtain ⟨hp9, hw⟩ := hw
                  refine aw_iincN (pc := 280) C dX7_layCommon_280 (k := 1) (by decide) rfl (by rw [hml]; decide) hp9 (fun x2_280 e9 => ?_)
                  have hw := hw x2_280 e9
                  refine aw_goto (pc := 283) (tgt := 179) C dX7_layCommon_283 (by decide) ?_
                  obtain ⟨m9, hm9, hw⟩ := hw
                  refine aw_sub [(0, vR a0), (1, vI x1_207), (2, vI x2_280)] ⟨rfl, rfl, rfl, trivial⟩ ?_
                  exact ih_179 m9 hm9 _ _ _ hw
                refine aw_icmp_ge (pc := 215) (tgt := 280) C dX7_layCommon_215 (by decide) (fun hc9 => ?_) (fun hc9 => ?_)
                · have hw := hw.1 hc9
                  refine aw_sub [(0, vR a0), (1, vI x1_207), (2, vI x2_179)] ⟨rfl, rfl, rfl, trivial⟩ ?_
                  exact J_280  _ hw
                · have hw := hw.2 hc9
                  refine aw_iload_n (pc := 218) C dX7_layCommon_218 rfl rfl ?_
                  refine aw_if_le (pc := 219) (tgt := 280) C dX7_layCommon_219 (by decide) (fun hc9 => ?_) (fun hc9 => ?_)
                  · have hw := hw.1 hc9
                    refine aw_sub [(0, vR a0), (1, vI x1_207), (2, vI x2_179)] ⟨rfl, rfl, rfl, trivial⟩ ?_
                    exact J_280  _ hw
                  · have hw := hw.2 hc9
                    refine aw_iload (pc := 222) C dX7_layCommon_222 rfl ?_
                    refine aw_if_ne (pc := 224) (tgt := 280) C dX7_layCommon_224 (by decide) (fun hc9 => ?_) (fun hc9 => ?_)
                    · have hw := hw.1 hc9
                      refine aw_sub [(0, vR a0), (1, vI x1_207), (2, vI x2_179)] ⟨rfl, rfl, rfl, trivial⟩ ?_
                      exact J_280  _ hw
                    · have hw := hw.2 hc9
                      refine aw_aload_n (pc := 227) C dX7_layCommon_227 rfl rfl ?_
                      refine aw_iload_n (pc := 228) C dX7_layCommon_228 rfl rfl ?_
                      refine aw_iload (pc := 229) C dX7_layCommon_229 rfl ?_
                      obtain ⟨hp9, hw⟩ := hw
                      refine aw_callV (pc := 231) (as := [vI x2_179, vI x5_207]) C ci7 (fun As hA => met_X7_areEqual G l As a0 x2_179 x5_207 _ _ hA hw) tw922 tw924 (tbp 41 (n := 21) (by decide +kernel)) tw10 tw925 ⟨rfl, rfl⟩ ⟨rfl, by decide, by decide, pd_X7_areEqual⟩ ⟨Nat.le_of_ble_eq_true rfl, Nat.le_of_ble_eq_true rfl⟩ ⟨Nat.zero_le _, Nat.zero_le _⟩ (Nat.le_of_ble_eq_true rfl) dX7_layCommon_231 rfl hp9 (fun v9 h231 hq9 => ?_)
                      obtain ⟨r231, rfl, hw⟩ := hq9
                      obtain ⟨k_274, hk_274, hw⟩ := jn_out hw
                      have J_274 : ∀ (x1_274 : Int) (x4_274 : Int) (h_274 : AH), k_274 x1_274 x4_274 h_274 → AW G p l e ({ frames := 1, cells := 0, slots := 0, locals := 23 } : Room) s m args below meth c 0 0 (MQ below (QG G (oV Q)) args s 0 0 (frA G)) 274 (eOf [(0, vR a0), (1, vI x1_274), (2, vI x2_179), (3, vI x3_200), (4, vI x4_274), (5, vI x5_207)]) [] h_274 := by
                        intro x1_274 x4_274 h_274 hw
                        rw [hk_274] at hw
                        obtain ⟨hp9, hw⟩ := hw
                        refine aw_iincN (pc := 274) C dX7_layCommon_274 (k := 1) (by decide) rfl (by rw [hml]; decide) hp9 (fun x5_274 e9 => ?_)
                        have hw := hw x5_274 e9
                        refine aw_goto (pc := 277) (tgt := 207) C dX7_layCommon_277 (by decide) ?_
                        obtain ⟨m9, hm9, hw⟩ := hw
                        refine aw_sub [(0, vR a0), (1, vI x1_274), (2, vI x2_179), (3, vI x3_200), (4, vI x4_274), (5, vI x5_274)] ⟨rfl, rfl, rfl, rfl, rfl, rfl, trivial⟩ ?_
                        exact ih_207 m9 hm9 _ _ _ _ hw
                      refine aw_if_eq (pc := 234) (tgt := 274) C dX7_layCommon_234 (by decide) (fun hc9 => ?_) (fun hc9 => ?_)
                      · have hw := hw.1 hc9
                        refine aw_sub [(0, vR a0), (1, vI x1_207), (2, vI x2_179), (3, vI x3_200), (4, vI x4_207), (5, vI x5_207)] ⟨rfl, rfl, rfl, rfl, rfl, rfl, trivial⟩ ?_
                        exact J_274 _ _ _ hw
                      · have hw := hw.2 hc9
                        refine aw_aload_n (pc := 237) C dX7_layCommon_237 rfl rfl ?_
                        obtain ⟨hp9, b238, hb9, hw⟩ := hw
                        refine aw_getR (pc := 238) C (ci := 7) (k := 11) ci7 (by decide) tw803 dX7_layCommon_238 rfl hp9 hb9 ?_
                        refine aw_bipush (pc := 241) C dX7_layCommon_241 (i := (41 : Int)) (by decide) ?_
                        refine aw_iload_n (pc := 243) C dX7_layCommon_243 rfl rfl ?_
                        obtain ⟨hp9, hw⟩ := hw
                        refine aw_imul (pc := 244) C dX7_layCommon_244 hp9 ?_
                        refine aw_bipush (pc := 245) C dX7_layCommon_245 (i := (42 : Int)) (by decide) ?_
                        obtain ⟨hp9, hw⟩ := hw
                        refine aw_iadd (pc := 247) C dX7_layCommon_247 hp9 ?_
                        refine aw_iload (pc := 248) C dX7_layCommon_248 rfl ?_
                        obtain ⟨hp9, hw⟩ := hw
                        refine aw_iadd (pc := 250) C dX7_layCommon_250 hp9 ?_
                        obtain ⟨⟨k9, hp9⟩, hw⟩ := hw
                        refine aw_iald (pc := 251) C dX7_layCommon_251 hp9 ?_
                        refine aw_iload_n (pc := 252) C dX7_layCommon_252 rfl rfl ?_
                        refine aw_iconst (pc := 253) C dX7_layCommon_253 (i := (1 : Int)) (by decide) ?_
                        obtain ⟨hp9, hw⟩ := hw
                        refine aw_isub (pc := 254) C dX7_layCommon_254 hp9 ?_
                        refine aw_icmp_ne (pc := 255) (tgt := 274) C dX7_layCommon_255 (by decide) (fun hc9 => ?_) (fun hc9 => ?_)
                        · have hw := hw.1 hc9
                          refine aw_sub [(0, vR a0), (1, vI x1_207), (2, vI x2_179), (3, vI x3_200), (4, vI x4_207), (5, vI x5_207)] ⟨rfl, rfl, rfl, rfl, rfl, rfl, trivial⟩ ?_
                          exact J_274 _ _ _ hw
                        · have hw := hw.2 hc9
                          refine aw_aload_n (pc := 258) C dX7_layCommon_258 rfl rfl ?_
                          refine aw_iload_n (pc := 259) C dX7_layCommon_259 rfl rfl ?_
                          refine aw_iload (pc := 260) C dX7_layCommon_260 rfl ?_
                          refine aw_iconst (pc := 262) C dX7_layCommon_262 (i := (1 : Int)) (by decide) ?_
                          obtain ⟨hp9, hw⟩ := hw
                          refine aw_callV (pc := 263) (as := [vI x2_179, vI x5_207, vI (1 : Int)]) C ci7 (fun As hA => met_X7_pair G l As a0 x2_179 x5_207 (1 : Int) _ _ hA hw) tw926 tw928 (tbp 42 (n := 21) (by decide +kernel)) tw10 tw929 ⟨rfl, rfl⟩ ⟨rfl, by decide, by decide, pd_X7_pair⟩ ⟨Nat.le_of_ble_eq_true rfl, Nat.le_of_ble_eq_true rfl⟩ ⟨Nat.zero_le _, Nat.zero_le _⟩ (Nat.le_of_ble_eq_true rfl) dX7_layCommon_263 rfl hp9 (fun v9 h263 hq9 => ?_)
                          obtain ⟨rfl, hw⟩ := hq9
                          refine aw_iload (pc := 266) C dX7_layCommon_266 rfl ?_
                          refine aw_iconst (pc := 268) C dX7_layCommon_268 (i := (1 : Int)) (by decide) ?_
                          obtain ⟨hp9, hw⟩ := hw
                          refine aw_iadd (pc := 269) C dX7_layCommon_269 hp9 ?_
                          refine aw_nmI (fun x1_270 e9 => ?_)
                          have hw := hw x1_270 e9
                          refine aw_istore_n (pc := 270) C dX7_layCommon_270 rfl (by rw [hml]; decide) ?_
                          refine aw_iconst (pc := 271) C dX7_layCommon_271 (i := (1 : Int)) (by decide) ?_
                          refine aw_istore (pc := 272) C dX7_layCommon_272 (by rw [hml]; decide) ?_
                          refine aw_sub [(0, vR a0), (1, vI x1_270), (2, vI x2_179), (3, vI x3_200), (4, vI (1 : Int)), (5, vI x5_207)] ⟨rfl, rfl, rfl, rfl, rfl, rfl, trivial⟩ ?_
                          exact J_274 _ _ _ hw
              refine aw_sub [(0, vR a0), (1, vI x1_179), (2, vI x2_179), (3, vI x3_200), (4, vI (0 : Int)), (5, vI x1_179)] ⟨rfl, rfl, rfl, rfl, rfl, rfl, trivial⟩ ?_
              exact L_207 n9 _ _ _ _ hi9
          refine aw_sub [(0, vR a0), (1, vI (0 : Int)), (2, vI (0 : Int))] ⟨rfl, rfl, rfl, trivial⟩ ?_
          exact L_179 n9 _ _ _ hi9
        · have hw := hw.2 hc9
          refine aw_aload_n (pc := 35) C dX7_layCommon_35 rfl rfl ?_
          obtain ⟨hp9, b36, hb9, hw⟩ := hw
          refine aw_getR (pc := 36) C (ci := 7) (k := 6) ci7 (by decide) tw798 dX7_layCommon_36 rfl hp9 hb9 ?_
          refine aw_iconst (pc := 39) C dX7_layCommon_39 (i := (1 : Int)) (by decide) ?_
          obtain ⟨⟨k9, hp9⟩, hw⟩ := hw
          refine aw_iald (pc := 40) C dX7_layCommon_40 hp9 ?_
          refine aw_iconst (pc := 41) C dX7_layCommon_41 (i := (1 : Int)) (by decide) ?_
          obtain ⟨hp9, hw⟩ := hw
          refine aw_isub (pc := 42) C dX7_layCommon_42 hp9 ?_
          refine aw_nmI (fun x2_43 e9 => ?_)
          have hw := hw x2_43 e9
          refine aw_istore_n (pc := 43) C dX7_layCommon_43 rfl (by rw [hml]; decide) ?_
          obtain ⟨I_44, ⟨n9, hi9⟩, hst9⟩ := hw
          have L_44 : ∀ (n_44 : Nat) (x2_44 : Int) (h_44 : AH), I_44 n_44 x2_44 h_44 → AW G p l e ({ frames := 1, cells := 0, slots := 0, locals := 23 } : Room) s m args below meth c 0 0 (MQ below (QG G (oV Q)) args s 0 0 (frA G)) 44 (eOf [(0, vR a0), (1, vI x1_31), (2, vI x2_44)]) [] h_44 := by
            intro n_44
            induction n_44 using Nat.strongRecOn with
            | _ n_44 ih_44 =>
            intro x2_44 h_44 hi9
            have hw := hst9 n_44 x2_44 h_44 hi9
            refine aw_iload_n (pc := 44) C dX7_layCommon_44 rfl rfl ?_
            refine aw_if_lt (pc := 45) (tgt := 169) C dX7_layCommon_45 (by decide) (fun hc9 => ?_) (fun hc9 => ?_)
            · have hw := hw.1 hc9
              obtain ⟨hp9, hw⟩ := hw
              refine aw_iincN (pc := 169) C dX7_layCommon_169 (k := (-1)) (by decide) rfl (by rw [hml]; decide) hp9 (fun x1_169 e9 => ?_)
              have hw := hw x1_169 e9
              refine aw_goto (pc := 172) (tgt := 31) C dX7_layCommon_172 (by decide) ?_
              obtain ⟨m9, hm9, hw⟩ := hw
              refine aw_sub [(0, vR a0), (1, vI x1_169)] ⟨rfl, rfl, trivial⟩ ?_
              exact ih_31 m9 hm9 _ _ hw
            · have hw := hw.2 hc9
              refine aw_aload_n (pc := 48) C dX7_layCommon_48 rfl rfl ?_
              obtain ⟨hp9, b49, hb9, hw⟩ := hw
              refine aw_getR (pc := 49) C (ci := 7) (k := 11) ci7 (by decide) tw803 dX7_layCommon_49 rfl hp9 hb9 ?_
              refine aw_bipush (pc := 52) C dX7_layCommon_52 (i := (41 : Int)) (by decide) ?_
              refine aw_iload_n (pc := 54) C dX7_layCommon_54 rfl rfl ?_
              obtain ⟨hp9, hw⟩ := hw
              refine aw_imul (pc := 55) C dX7_layCommon_55 hp9 ?_
              refine aw_bipush (pc := 56) C dX7_layCommon_56 (i := (41 : Int)) (by decide) ?_
              obtain ⟨hp9, hw⟩ := hw
              refine aw_iadd (pc := 58) C dX7_layCommon_58 hp9 ?_
              refine aw_iload_n (pc := 59) C dX7_layCommon_59 rfl rfl ?_
              obtain ⟨hp9, hw⟩ := hw
              refine aw_iadd (pc := 60) C dX7_layCommon_60 hp9 ?_
              obtain ⟨⟨k9, hp9⟩, hw⟩ := hw
              refine aw_iald (pc := 61) C dX7_layCommon_61 hp9 ?_
              refine aw_aload_n (pc := 62) C dX7_layCommon_62 rfl rfl ?_
              obtain ⟨hp9, b63, hb9, hw⟩ := hw
              refine aw_getR (pc := 63) C (ci := 7) (k := 11) ci7 (by decide) tw803 dX7_layCommon_63 rfl hp9 hb9 ?_
              refine aw_bipush (pc := 66) C dX7_layCommon_66 (i := (41 : Int)) (by decide) ?_
              refine aw_iload_n (pc := 68) C dX7_layCommon_68 rfl rfl ?_
              obtain ⟨hp9, hw⟩ := hw
              refine aw_imul (pc := 69) C dX7_layCommon_69 hp9 ?_
              refine aw_iload_n (pc := 70) C dX7_layCommon_70 rfl rfl ?_
              obtain ⟨hp9, hw⟩ := hw
              refine aw_iadd (pc := 71) C dX7_layCommon_71 hp9 ?_
              refine aw_iconst (pc := 72) C dX7_layCommon_72 (i := (1 : Int)) (by decide) ?_
              obtain ⟨hp9, hw⟩ := hw
              refine aw_iadd (pc := 73) C dX7_layCommon_73 hp9 ?_
              obtain ⟨⟨k9, hp9⟩, hw⟩ := hw
              refine aw_iald (pc := 74) C dX7_layCommon_74 hp9 ?_
              obtain ⟨k_108, hk_108, hw⟩ := jn_out hw
              have J_108 : ∀ (t0_108 : Int) (h_108 : AH), k_108 t0_108 h_108 → AW G p l e ({ frames := 1, cells := 0, slots := 0, locals := 23 } : Room) s m args below meth c 0 0 (MQ below (QG G (oV Q)) args s 0 0 (frA G)) 108 (eOf [(0, vR a0), (1, vI x1_31), (2, vI x2_44)]) [vI t0_108] h_108 := by
                intro t0_108 h_108 hw
                rw [hk_108] at hw
                refine aw_istore_n (pc := 108) C dX7_layCommon_108 rfl (by rw [hml]; decide) ?_
                refine aw_aload_n (pc := 109) C dX7_layCommon_109 rfl rfl ?_
                refine aw_iload_n (pc := 110) C dX7_layCommon_110 rfl rfl ?_
                refine aw_iload_n (pc := 111) C dX7_layCommon_111 rfl rfl ?_
                obtain ⟨hp9, hw⟩ := hw
                refine aw_callV (pc := 112) (as := [vI x1_31, vI x2_44]) C ci7 (fun As hA => met_X7_areEqual G l As a0 x1_31 x2_44 _ _ hA hw) tw922 tw924 (tbp 41 (n := 21) (by decide +kernel)) tw10 tw925 ⟨rfl, rfl⟩ ⟨rfl, by decide, by decide, pd_X7_areEqual⟩ ⟨Nat.le_of_ble_eq_true rfl, Nat.le_of_ble_eq_true rfl⟩ ⟨Nat.zero_le _, Nat.zero_le _⟩ (Nat.le_of_ble_eq_true rfl) dX7_layCommon_112 rfl hp9 (fun v9 h112 hq9 => ?_)
                obtain ⟨r112, rfl, hw⟩ := hq9
                obtain ⟨k_138, hk_138, hw⟩ := jn_out hw
                have J_138 : ∀ (t0_138 : Int) (h_138 : AH), k_138 t0_138 h_138 → AW G p l e ({ frames := 1, cells := 0, slots := 0, locals := 23 } : Room) s m args below meth c 0 0 (MQ below (QG G (oV Q)) args s 0 0 (frA G)) 138 (eOf [(0, vR a0), (1, vI x1_31), (2, vI x2_44), (3, vI t0_108)]) [vI t0_138] h_138 := by
                  intro t0_138 h_138 hw
                  rw [hk_138] at hw
                  refine aw_istore (pc := 138) C dX7_layCommon_138 (by rw [hml]; decide) ?_
                  refine aw_aload_n (pc := 140) C dX7_layCommon_140 rfl rfl ?_
                  obtain ⟨hp9, b141, hb9, hw⟩ := hw
                  refine aw_getR (pc := 141) C (ci := 7) (k := 11) ci7 (by decide) tw803 dX7_layCommon_141 rfl hp9 hb9 ?_
                  refine aw_bipush (pc := 144) C dX7_layCommon_144 (i := (41 : Int)) (by decide) ?_
                  refine aw_iload_n (pc := 146) C dX7_layCommon_146 rfl rfl ?_
                  obtain ⟨hp9, hw⟩ := hw
                  refine aw_imul (pc := 147) C dX7_layCommon_147 hp9 ?_
                  refine aw_iload_n (pc := 148) C dX7_layCommon_148 rfl rfl ?_
                  obtain ⟨hp9, hw⟩ := hw
                  refine aw_iadd (pc := 149) C dX7_layCommon_149 hp9 ?_
                  refine aw_iload (pc := 150) C dX7_layCommon_150 rfl ?_
                  refine aw_iload_n (pc := 152) C dX7_layCommon_152 rfl rfl ?_
                  obtain ⟨k_162, hk_162, hw⟩ := jn_out hw
                  have J_162 : ∀ (t2_162 : Int) (h_162 : AH), k_162 t2_162 h_162 → AW G p l e ({ frames := 1, cells := 0, slots := 0, locals := 23 } : Room) s m args below meth c 0 0 (MQ below (QG G (oV Q)) args s 0 0 (frA G)) 162 (eOf [(0, vR a0), (1, vI x1_31), (2, vI x2_44)]) [vI t2_162, vI (((41 : Int) * x1_31) + x2_44), vR b141] h_162 := by
                    intro t2_162 h_162 hw
                    rw [hk_162] at hw
                    obtain ⟨⟨k9, hp9⟩, hw⟩ := hw
                    refine aw_iast (pc := 162) C dX7_layCommon_162 hp9 (aw_nmH (fun h162 e9 => ?_))
                    have hw := hw h162 e9
                    obtain ⟨hp9, hw⟩ := hw
                    refine aw_iincN (pc := 163) C dX7_layCommon_163 (k := (-1)) (by decide) rfl (by rw [hml]; decide) hp9 (fun x2_163 e9 => ?_)
                    have hw := hw x2_163 e9
                    refine aw_goto (pc := 166) (tgt := 44) C dX7_layCommon_166 (by decide) ?_
                    obtain ⟨m9, hm9, hw⟩ := hw
                    refine aw_sub [(0, vR a0), (1, vI x1_31), (2, vI x2_163)] ⟨rfl, rfl, rfl, trivial⟩ ?_
                    exact ih_44 m9 hm9 _ _ hw
                  refine aw_icmp_le (pc := 153) (tgt := 161) C dX7_layCommon_153 (by decide) (fun hc9 => ?_) (fun hc9 => ?_)
                  · have hw := hw.1 hc9
                    refine aw_iload_n (pc := 161) C dX7_layCommon_161 rfl rfl ?_
                    refine aw_sub [(0, vR a0), (1, vI x1_31), (2, vI x2_44)] ⟨rfl, rfl, rfl, trivial⟩ ?_
                    exact J_162 _ _ hw
                  · have hw := hw.2 hc9
                    refine aw_iload (pc := 156) C dX7_layCommon_156 rfl ?_
                    refine aw_goto (pc := 158) (tgt := 162) C dX7_layCommon_158 (by decide) ?_
                    refine aw_sub [(0, vR a0), (1, vI x1_31), (2, vI x2_44)] ⟨rfl, rfl, rfl, trivial⟩ ?_
                    exact J_162 _ _ hw
                refine aw_if_eq (pc := 115) (tgt := 137) C dX7_layCommon_115 (by decide) (fun hc9 => ?_) (fun hc9 => ?_)
                · have hw := hw.1 hc9
                  refine aw_iconst (pc := 137) C dX7_layCommon_137 (i := (0 : Int)) (by decide) ?_
                  refine aw_sub [(0, vR a0), (1, vI x1_31), (2, vI x2_44), (3, vI t0_108)] ⟨rfl, rfl, rfl, rfl, trivial⟩ ?_
                  exact J_138 _ _ hw
                · have hw := hw.2 hc9
                  refine aw_aload_n (pc := 118) C dX7_layCommon_118 rfl rfl ?_
                  obtain ⟨hp9, b119, hb9, hw⟩ := hw
                  refine aw_getR (pc := 119) C (ci := 7) (k := 11) ci7 (by decide) tw803 dX7_layCommon_119 rfl hp9 hb9 ?_
                  refine aw_bipush (pc := 122) C dX7_layCommon_122 (i := (41 : Int)) (by decide) ?_
                  refine aw_iload_n (pc := 124) C dX7_layCommon_124 rfl rfl ?_
                  obtain ⟨hp9, hw⟩ := hw
                  refine aw_imul (pc := 125) C dX7_layCommon_125 hp9 ?_
                  refine aw_bipush (pc := 126) C dX7_layCommon_126 (i := (42 : Int)) (by decide) ?_
                  obtain ⟨hp9, hw⟩ := hw
                  refine aw_iadd (pc := 128) C dX7_layCommon_128 hp9 ?_
                  refine aw_iload_n (pc := 129) C dX7_layCommon_129 rfl rfl ?_
                  obtain ⟨hp9, hw⟩ := hw
                  refine aw_iadd (pc := 130) C dX7_layCommon_130 hp9 ?_
                  obtain ⟨⟨k9, hp9⟩, hw⟩ := hw
                  refine aw_iald (pc := 131) C dX7_layCommon_131 hp9 ?_
                  refine aw_iconst (pc := 132) C dX7_layCommon_132 (i := (1 : Int)) (by decide) ?_
                  obtain ⟨hp9, hw⟩ := hw
                  refine aw_iadd (pc := 133) C dX7_layCommon_133 hp9 ?_
                  refine aw_goto (pc := 134) (tgt := 138) C dX7_layCommon_134 (by decide) ?_
                  refine aw_sub [(0, vR a0), (1, vI x1_31), (2, vI x2_44), (3, vI t0_108)] ⟨rfl, rfl, rfl, rfl, trivial⟩ ?_
                  exact J_138 _ _ hw
              refine aw_icmp_le (pc := 75) (tgt := 95) C dX7_layCommon_75 (by decide) (fun hc9 => ?_) (fun hc9 => ?_)
              · have hw := hw.1 hc9
                refine aw_aload_n (pc := 95) C dX7_layCommon_95 rfl rfl ?_
                obtain ⟨hp9, b96, hb9, hw⟩ := hw
                refine aw_getR (pc := 96) C (ci := 7) (k := 11) ci7 (by decide) tw803 dX7_layCommon_96 rfl hp9 hb9 ?_
                refine aw_bipush (pc := 99) C dX7_layCommon_99 (i := (41 : Int)) (by decide) ?_
                refine aw_iload_n (pc := 101) C dX7_layCommon_101 rfl rfl ?_
                obtain ⟨hp9, hw⟩ := hw
                refine aw_imul (pc := 102) C dX7_layCommon_102 hp9 ?_
                refine aw_iload_n (pc := 103) C dX7_layCommon_103 rfl rfl ?_
                obtain ⟨hp9, hw⟩ := hw
                refine aw_iadd (pc := 104) C dX7_layCommon_104 hp9 ?_
                refine aw_iconst (pc := 105) C dX7_layCommon_105 (i := (1 : Int)) (by decide) ?_
                obtain ⟨hp9, hw⟩ := hw
                refine aw_iadd (pc := 106) C dX7_layCommon_106 hp9 ?_
                obtain ⟨⟨k9, hp9⟩, hw⟩ := hw
                refine aw_iald (pc := 107) C dX7_layCommon_107 hp9 ?_
                refine aw_sub [(0, vR a0), (1, vI x1_31), (2, vI x2_44)] ⟨rfl, rfl, rfl, trivial⟩ ?_
                exact J_108 _ _ hw
              · have hw := hw.2 hc9
                refine aw_aload_n (pc := 78) C dX7_layCommon_78 rfl rfl ?_
                obtain ⟨hp9, b79, hb9, hw⟩ := hw
                refine aw_getR (pc := 79) C (ci := 7) (k := 11) ci7 (by decide) tw803 dX7_layCommon_79 rfl hp9 hb9 ?_
                refine aw_bipush (pc := 82) C dX7_layCommon_82 (i := (41 : Int)) (by decide) ?_
                refine aw_iload_n (pc := 84) C dX7_layCommon_84 rfl rfl ?_
                obtain ⟨hp9, hw⟩ := hw
                refine aw_imul (pc := 85) C dX7_layCommon_85 hp9 ?_
                refine aw_bipush (pc := 86) C dX7_layCommon_86 (i := (41 : Int)) (by decide) ?_
                obtain ⟨hp9, hw⟩ := hw
                refine aw_iadd (pc := 88) C dX7_layCommon_88 hp9 ?_
                refine aw_iload_n (pc := 89) C dX7_layCommon_89 rfl rfl ?_
                obtain ⟨hp9, hw⟩ := hw
                refine aw_iadd (pc := 90) C dX7_layCommon_90 hp9 ?_
                obtain ⟨⟨k9, hp9⟩, hw⟩ := hw
                refine aw_iald (pc := 91) C dX7_layCommon_91 hp9 ?_
                refine aw_goto (pc := 92) (tgt := 108) C dX7_layCommon_92 (by decide) ?_
                refine aw_sub [(0, vR a0), (1, vI x1_31), (2, vI x2_44)] ⟨rfl, rfl, rfl, trivial⟩ ?_
                exact J_108 _ _ hw
          refine aw_sub [(0, vR a0), (1, vI x1_31), (2, vI x2_43)] ⟨rfl, rfl, rfl, trivial⟩ ?_
          exact L_44 n9 _ _ hi9
      refine aw_sub [(0, vR a0), (1, vI x1_30)] ⟨rfl, rfl, trivial⟩ ?_
      exact L_31 n9 _ _ hi9
    · have hw := hw.2 hc9
      refine aw_aload_n (pc := 9) C dX7_layCommon_9 rfl rfl ?_
      obtain ⟨hp9, b10, hb9, hw⟩ := hw
      refine aw_getR (pc := 10) C (ci := 7) (k := 11) ci7 (by decide) tw803 dX7_layCommon_10 rfl hp9 hb9 ?_
      refine aw_iload_n (pc := 13) C dX7_layCommon_13 rfl rfl ?_
      refine aw_iconst (pc := 14) C dX7_layCommon_14 (i := (0 : Int)) (by decide) ?_
      obtain ⟨⟨k9, hp9⟩, hw⟩ := hw
      refine aw_iast (pc := 15) C dX7_layCommon_15 hp9 (aw_nmH (fun h15 e9 => ?_))
      have hw := hw h15 e9
      obtain ⟨hp9, hw⟩ := hw
      refine aw_iincN (pc := 16) C dX7_layCommon_16 (k := 1) (by decide) rfl (by rw [hml]; decide) hp9 (fun x1_16 e9 => ?_)
      have hw := hw x1_16 e9
      refine aw_goto (pc := 19) (tgt := 2) C dX7_layCommon_19 (by decide) ?_
      obtain ⟨m9, hm9, hw⟩ := hw
      refine aw_sub [(0, vR a0), (1, vI x1_16)] ⟨rfl, rfl, trivial⟩ ?_
      exact ih_2 m9 hm9 _ _ hw
  refine aw_sub [(0, vR a0), (1, vI (0 : Int))] ⟨rfl, rfl, trivial⟩ ?_
  exact L_2 n9 _ _ hi9
theorem dX7_canPair_0 : decode cX7_canPair 0 = .ok (.aload_n 0, 1) := by decide +kernel
theorem dX7_canPair_1 : decode cX7_canPair 1 = .ok (.getfield 28, 3) := by decide +kernel
theorem dX7_canPair_4 : decode cX7_canPair 4 = .ok (.iload_n 1, 1) := by decide +kernel
theorem dX7_canPair_5 : decode cX7_canPair 5 = .ok (.iaload, 1) := by decide +kernel
theorem dX7_canPair_6 : decode cX7_canPair 6 = .ok (.iconst (-1), 1) := by decide +kernel
theorem dX7_canPair_7 : decode cX7_canPair 7 = .ok (.if_icmp .ne 20, 3) := by decide +kernel
theorem dX7_canPair_10 : decode cX7_canPair 10 = .ok (.aload_n 0, 1) := by decide +kernel
theorem dX7_canPair_11 : decode cX7_canPair 11 = .ok (.getfield 28, 3) := by decide +kernel
theorem dX7_canPair_14 : decode cX7_canPair 14 = .ok (.bipush 40, 2) := by decide +kernel
theorem dX7_canPair_16 : decode cX7_canPair 16 = .ok (.iload_n 2, 1) := by decide +kernel
theorem dX7_canPair_17 : decode cX7_canPair 17 = .ok (.iadd, 1) := by decide +kernel
theorem dX7_canPair_18 : decode cX7_canPair 18 = .ok (.iaload, 1) := by decide +kernel
theorem dX7_canPair_19 : decode cX7_canPair 19 = .ok (.iconst (-1), 1) := by decide +kernel
theorem dX7_canPair_20 : decode cX7_canPair 20 = .ok (.if_icmp .ne 7, 3) := by decide +kernel
theorem dX7_canPair_23 : decode cX7_canPair 23 = .ok (.iconst 1, 1) := by decide +kernel
theorem dX7_canPair_24 : decode cX7_canPair 24 = .ok (.goto 4, 3) := by decide +kernel
theorem dX7_canPair_27 : decode cX7_canPair 27 = .ok (.iconst 0, 1) := by decide +kernel
theorem dX7_canPair_28 : decode cX7_canPair 28 = .ok (.istore 4, 2) := by decide +kernel
theorem dX7_canPair_30 : decode cX7_canPair 30 = .ok (.aload_n 0, 1) := by decide +kernel
theorem dX7_canPair_31 : decode cX7_canPair 31 = .ok (.iload_n 1, 1) := by decide +kernel
theorem dX7_canPair_32 : decode cX7_canPair 32 = .ok (.iload_n 2, 1) := by decide +kernel
theorem dX7_canPair_33 : decode cX7_canPair 33 = .ok (.invokevirtual 84, 3) := by decide +kernel
theorem dX7_canPair_36 : decode cX7_canPair 36 = .ok (.aload_n 0, 1) := by decide +kernel
theorem dX7_canPair_37 : decode cX7_canPair 37 = .ok (.iload_n 3, 1) := by decide +kernel
theorem dX7_canPair_38 : decode cX7_canPair 38 = .ok (.iconst 2, 1) := by decide +kernel
theorem dX7_canPair_39 : decode cX7_canPair 39 = .ok (.if_icmp .ne 7, 3) := by decide +kernel
theorem dX7_canPair_42 : decode cX7_canPair 42 = .ok (.iconst 1, 1) := by decide +kernel
theorem dX7_canPair_43 : decode cX7_canPair 43 = .ok (.goto 4, 3) := by decide +kernel
theorem dX7_canPair_46 : decode cX7_canPair 46 = .ok (.iconst 2, 1) := by decide +kernel
theorem dX7_canPair_47 : decode cX7_canPair 47 = .ok (.invokevirtual 73, 3) := by decide +kernel
theorem dX7_canPair_50 : decode cX7_canPair 50 = .ok (.if_icmp .gt 7, 3) := by decide +kernel
theorem dX7_canPair_53 : decode cX7_canPair 53 = .ok (.iconst 1, 1) := by decide +kernel
theorem dX7_canPair_54 : decode cX7_canPair 54 = .ok (.goto 4, 3) := by decide +kernel
theorem dX7_canPair_57 : decode cX7_canPair 57 = .ok (.iconst 0, 1) := by decide +kernel
theorem dX7_canPair_58 : decode cX7_canPair 58 = .ok (.istore 5, 2) := by decide +kernel
theorem dX7_canPair_60 : decode cX7_canPair 60 = .ok (.aload_n 0, 1) := by decide +kernel
theorem dX7_canPair_61 : decode cX7_canPair 61 = .ok (.iconst 3, 1) := by decide +kernel
theorem dX7_canPair_62 : decode cX7_canPair 62 = .ok (.invokevirtual 73, 3) := by decide +kernel
theorem dX7_canPair_65 : decode cX7_canPair 65 = .ok (.ifCond .eq 27, 3) := by decide +kernel
theorem dX7_canPair_68 : decode cX7_canPair 68 = .ok (.aload_n 0, 1) := by decide +kernel
theorem dX7_canPair_69 : decode cX7_canPair 69 = .ok (.getfield 22, 3) := by decide +kernel
theorem dX7_canPair_72 : decode cX7_canPair 72 = .ok (.iload_n 1, 1) := by decide +kernel
theorem dX7_canPair_73 : decode cX7_canPair 73 = .ok (.iaload, 1) := by decide +kernel
theorem dX7_canPair_74 : decode cX7_canPair 74 = .ok (.bipush 16, 2) := by decide +kernel
theorem dX7_canPair_76 : decode cX7_canPair 76 = .ok (.idiv, 1) := by decide +kernel
theorem dX7_canPair_77 : decode cX7_canPair 77 = .ok (.aload_n 0, 1) := by decide +kernel
theorem dX7_canPair_78 : decode cX7_canPair 78 = .ok (.getfield 22, 3) := by decide +kernel
theorem dX7_canPair_81 : decode cX7_canPair 81 = .ok (.bipush 40, 2) := by decide +kernel
theorem dX7_canPair_83 : decode cX7_canPair 83 = .ok (.iload_n 2, 1) := by decide +kernel
theorem dX7_canPair_84 : decode cX7_canPair 84 = .ok (.iadd, 1) := by decide +kernel
theorem dX7_canPair_85 : decode cX7_canPair 85 = .ok (.iaload, 1) := by decide +kernel
theorem dX7_canPair_86 : decode cX7_canPair 86 = .ok (.bipush 16, 2) := by decide +kernel
theorem dX7_canPair_88 : decode cX7_canPair 88 = .ok (.idiv, 1) := by decide +kernel
theorem dX7_canPair_89 : decode cX7_canPair 89 = .ok (.if_icmp .ne 7, 3) := by decide +kernel
theorem dX7_canPair_92 : decode cX7_canPair 92 = .ok (.iconst 1, 1) := by decide +kernel
theorem dX7_canPair_93 : decode cX7_canPair 93 = .ok (.goto 4, 3) := by decide +kernel
theorem dX7_canPair_96 : decode cX7_canPair 96 = .ok (.iconst 0, 1) := by decide +kernel
theorem dX7_canPair_97 : decode cX7_canPair 97 = .ok (.istore 6, 2) := by decide +kernel
theorem dX7_canPair_99 : decode cX7_canPair 99 = .ok (.iload 4, 2) := by decide +kernel
theorem dX7_canPair_101 : decode cX7_canPair 101 = .ok (.ifCond .eq 31, 3) := by decide +kernel
theorem dX7_canPair_104 : decode cX7_canPair 104 = .ok (.iload 5, 2) := by decide +kernel
theorem dX7_canPair_106 : decode cX7_canPair 106 = .ok (.ifCond .eq 26, 3) := by decide +kernel
theorem dX7_canPair_109 : decode cX7_canPair 109 = .ok (.iload 6, 2) := by decide +kernel
theorem dX7_canPair_111 : decode cX7_canPair 111 = .ok (.ifCond .eq 21, 3) := by decide +kernel
theorem dX7_canPair_114 : decode cX7_canPair 114 = .ok (.iload_n 3, 1) := by decide +kernel
theorem dX7_canPair_115 : decode cX7_canPair 115 = .ok (.iconst 3, 1) := by decide +kernel
theorem dX7_canPair_116 : decode cX7_canPair 116 = .ok (.if_icmp .eq 12, 3) := by decide +kernel
theorem dX7_canPair_119 : decode cX7_canPair 119 = .ok (.aload_n 0, 1) := by decide +kernel
theorem dX7_canPair_120 : decode cX7_canPair 120 = .ok (.iload_n 1, 1) := by decide +kernel
theorem dX7_canPair_121 : decode cX7_canPair 121 = .ok (.iload_n 2, 1) := by decide +kernel
theorem dX7_canPair_122 : decode cX7_canPair 122 = .ok (.invokevirtual 76, 3) := by decide +kernel
theorem dX7_canPair_125 : decode cX7_canPair 125 = .ok (.ifCond .eq 7, 3) := by decide +kernel
theorem dX7_canPair_128 : decode cX7_canPair 128 = .ok (.iconst 1, 1) := by decide +kernel
theorem dX7_canPair_129 : decode cX7_canPair 129 = .ok (.goto 4, 3) := by decide +kernel
theorem dX7_canPair_132 : decode cX7_canPair 132 = .ok (.iconst 0, 1) := by decide +kernel
theorem dX7_canPair_133 : decode cX7_canPair 133 = .ok (.ireturn, 1) := by decide +kernel
theorem pd_X7_canPair : (parseMethodDescriptor yX7_canPair.desc).map (fun d => d.parameters.length) = some 3 := by decide +kernel
def w_X7_canPair (zz : Nat → Nat) (a0 : Nat) (a1 : Int) (a2 : Int) (a3 : Int) (h : AH) (Q : Int → AH → Prop) : Prop := okA h a0 7 ∧ ∃ b1 : Nat, hfR h a0 9 = some b1 ∧ okI h b1 a1 ∧ jn (fun (t0_28 : Int) (h_28 : AH) => okA h_28 a0 7 ∧ w_X7_distance zz a0 a1 a2 h_28 (fun (r33 : Int) (h33 : AH) => jn (fun (t2_47 : Int) (h_47 : AH) => okA h_47 a0 7 ∧ w_X7_of zz a0 t2_47 h_47 (fun (r47 : Int) (h47 : AH) => jn (fun (t0_58 : Int) (h_58 : AH) => okA h_58 a0 7 ∧ w_X7_of zz a0 (3 : Int) h_58 (fun (r62 : Int) (h62 : AH) => jn (fun (t0_97 : Int) (h_97 : AH) => jn (fun (t0_133 : Int) (h_133 : AH) => (t0_133 = 0 ∨ t0_133 = 1) ∧ Q t0_133 h_133) (fun k_133 : Int → AH → Prop => jn (fun  (h_132 : AH) => k_133 (0 : Int) h_132) (fun k_132 : AH → Prop => ((t0_28 = 0) → k_132  h_97) ∧ ((¬ (t0_28 = 0)) → ((t0_58 = 0) → k_132  h_97) ∧ ((¬ (t0_58 = 0)) → ((t0_97 = 0) → k_132  h_97) ∧ ((¬ (t0_97 = 0)) → jn (fun  (h_128 : AH) => k_133 (1 : Int) h_128) (fun k_128 : AH → Prop => ((a3 = (3 : Int)) → k_128  h_97) ∧ ((¬ (a3 = (3 : Int))) → okA h_97 a0 7 ∧ w_X7_areEqual zz a0 a1 a2 h_97 (fun (r122 : Int) (h122 : AH) => ((r122 = 0) → k_132  h122) ∧ ((¬ (r122 = 0)) → k_128  h122)))))))))) (fun k_97 : Int → AH → Prop => jn (fun  (h_92 : AH) => k_97 (1 : Int) h_92) (fun k_92 : AH → Prop => ((r62 = 0) → k_92  h62) ∧ ((¬ (r62 = 0)) → okA h62 a0 7 ∧ ∃ b69 : Nat, hfR h62 a0 7 = some b69 ∧ okI h62 b69 a1 ∧ (0 ≤ (haI h62 b69 a1) ∧ 0 < (16 : Int)) ∧ okA h62 a0 7 ∧ ∃ b78 : Nat, hfR h62 a0 7 = some b78 ∧ inR ((40 : Int) + a2) ∧ okI h62 b78 ((40 : Int) + a2) ∧ (0 ≤ (haI h62 b78 ((40 : Int) + a2)) ∧ 0 < (16 : Int)) ∧ ((¬ ((haI h62 b69 a1) / (16 : Int)) = ((haI h62 b78 ((40 : Int) + a2)) / (16 : Int))) → k_97 (0 : Int) h62) ∧ ((((haI h62 b69 a1) / (16 : Int)) = ((haI h62 b78 ((40 : Int) + a2)) / (16 : Int))) → k_92  h62)))))) (fun k_58 : Int → AH → Prop => ((r47 < r33) → k_58 (0 : Int) h47) ∧ ((¬ (r47 < r33)) → k_58 (1 : Int) h47)))) (fun k_47 : Int → AH → Prop => ((¬ a3 = (2 : Int)) → k_47 (2 : Int) h33) ∧ ((a3 = (2 : Int)) → k_47 (1 : Int) h33)))) (fun k_28 : Int → AH → Prop => jn (fun  (h_27 : AH) => k_28 (0 : Int) h_27) (fun k_27 : AH → Prop => ((¬ (haI h b1 a1) = (-1 : Int)) → k_27  h) ∧ (((haI h b1 a1) = (-1 : Int)) → okA h a0 7 ∧ ∃ b11 : Nat, hfR h a0 9 = some b11 ∧ inR ((40 : Int) + a2) ∧ okI h b11 ((40 : Int) + a2) ∧ ((¬ (haI h b11 ((40 : Int) + a2)) = (-1 : Int)) → k_27  h) ∧ (((haI h b11 ((40 : Int) + a2)) = (-1 : Int)) → k_28 (1 : Int) h))))
set_option maxRecDepth 100000 in
set_option maxHeartbeats 4000000 in
theorem met_X7_canPair (G : GG) (l : Launch) : ∀ (As : List Value) (a0 : Nat) (a1 : Int) (a2 : Int) (a3 : Int) (h : AH) (Q : Int → AH → Prop), As.map ab = List.map some ([vR a0, vI a1, vI a2, vI a3] : List AV) → w_X7_canPair G.2.2 a0 a1 a2 a3 h Q → Met l yX7_canPair (.code yX7_canPair cX7_canPair 7 (some .boolean) :: xTb) ({ frames := 2, cells := 0, slots := 0, locals := 45 } : Room) (PcA G As h) (QG G (oI Q)) 0 0 (frA G) := by
  intro As a0 a1 a2 a3 h Q hA hw
  refine met_of hA (by decide) (Nat.le_of_ble_eq_true rfl) (fun p e s m args below meth c C hml hr hnm => ?_)
  unfold w_X7_canPair at hw
  refine aw_aload_n (pc := 0) C dX7_canPair_0 rfl rfl ?_
  obtain ⟨hp9, b1, hb9, hw⟩ := hw
  refine aw_getR (pc := 1) C (ci := 7) (k := 9) ci7 (by decide) tw801 dX7_canPair_1 rfl hp9 hb9 ?_
  refine aw_iload_n (pc := 4) C dX7_canPair_4 rfl rfl ?_
  obtain ⟨⟨k9, hp9⟩, hw⟩ := hw
  refine aw_iald (pc := 5) C dX7_canPair_5 hp9 ?_
  refine aw_iconst (pc := 6) C dX7_canPair_6 (i := (-1 : Int)) (by decide) ?_
  obtain ⟨k_28, hk_28, hw⟩ := jn_out hw
  have J_28 : ∀ (t0_28 : Int) (h_28 : AH), k_28 t0_28 h_28 → AW G p l e ({ frames := 2, cells := 0, slots := 0, locals := 45 } : Room) s m args below meth c 0 0 (MQ below (QG G (oI Q)) args s 0 0 (frA G)) 28 (eOf [(0, vR a0), (1, vI a1), (2, vI a2), (3, vI a3)]) [vI t0_28] h_28 := by
    intro t0_28 h_28 hw
    rw [hk_28] at hw
    refine aw_istore (pc := 28) C dX7_canPair_28 (by rw [hml]; decide) ?_
    refine aw_aload_n (pc := 30) C dX7_canPair_30 rfl rfl ?_
    refine aw_iload_n (pc := 31) C dX7_canPair_31 rfl rfl ?_
    refine aw_iload_n (pc := 32) C dX7_canPair_32 rfl rfl ?_
    obtain ⟨hp9, hw⟩ := hw
    refine aw_callV (pc := 33) (as := [vI a1, vI a2]) C ci7 (fun As hA => met_X7_distance G l As a0 a1 a2 _ _ hA hw) tw938 tw940 (tbp 45 (n := 21) (by decide +kernel)) tw10 tw941 ⟨rfl, rfl⟩ ⟨rfl, by decide, by decide, pd_X7_distance⟩ ⟨Nat.le_of_ble_eq_true rfl, Nat.le_of_ble_eq_true rfl⟩ ⟨Nat.zero_le _, Nat.zero_le _⟩ (Nat.le_of_ble_eq_true rfl) dX7_canPair_33 rfl hp9 (fun v9 h33 hq9 => ?_)
    obtain ⟨r33, rfl, hw⟩ := hq9
    refine aw_aload_n (pc := 36) C dX7_canPair_36 rfl rfl ?_
    refine aw_iload_n (pc := 37) C dX7_canPair_37 rfl rfl ?_
    refine aw_iconst (pc := 38) C dX7_canPair_38 (i := (2 : Int)) (by decide) ?_
    obtain ⟨k_47, hk_47, hw⟩ := jn_out hw
    have J_47 : ∀ (t2_47 : Int) (h_47 : AH), k_47 t2_47 h_47 → AW G p l e ({ frames := 2, cells := 0, slots := 0, locals := 45 } : Room) s m args below meth c 0 0 (MQ below (QG G (oI Q)) args s 0 0 (frA G)) 47 (eOf [(0, vR a0), (1, vI a1), (2, vI a2), (3, vI a3), (4, vI t0_28)]) [vI t2_47, vR a0, vI r33] h_47 := by
      intro t2_47 h_47 hw
      rw [hk_47] at hw
      obtain ⟨hp9, hw⟩ := hw
      refine aw_callV (pc := 47) (as := [vI t2_47]) C ci7 (fun As hA => met_X7_of G l As a0 t2_47 _ _ hA hw) tw945 tw947 (tbp 46 (n := 21) (by decide +kernel)) tw10 tw948 ⟨rfl, rfl⟩ ⟨rfl, by decide, by decide, pd_X7_of⟩ ⟨Nat.le_of_ble_eq_true rfl, Nat.le_of_ble_eq_true rfl⟩ ⟨Nat.zero_le _, Nat.zero_le _⟩ (Nat.le_of_ble_eq_true rfl) dX7_canPair_47 rfl hp9 (fun v9 h47 hq9 => ?_)
      obtain ⟨r47, rfl, hw⟩ := hq9
      obtain ⟨k_58, hk_58, hw⟩ := jn_out hw
      have J_58 : ∀ (t0_58 : Int) (h_58 : AH), k_58 t0_58 h_58 → AW G p l e ({ frames := 2, cells := 0, slots := 0, locals := 45 } : Room) s m args below meth c 0 0 (MQ below (QG G (oI Q)) args s 0 0 (frA G)) 58 (eOf [(0, vR a0), (1, vI a1), (2, vI a2), (3, vI a3), (4, vI t0_28)]) [vI t0_58] h_58 := by
        intro t0_58 h_58 hw
        rw [hk_58] at hw
        refine aw_istore (pc := 58) C dX7_canPair_58 (by rw [hml]; decide) ?_
        refine aw_aload_n (pc := 60) C dX7_canPair_60 rfl rfl ?_
        refine aw_iconst (pc := 61) C dX7_canPair_61 (i := (3 : Int)) (by decide) ?_
        obtain ⟨hp9, hw⟩ := hw
        refine aw_callV (pc := 62) (as := [vI (3 : Int)]) C ci7 (fun As hA => met_X7_of G l As a0 (3 : Int) _ _ hA hw) tw945 tw947 (tbp 46 (n := 21) (by decide +kernel)) tw10 tw948 ⟨rfl, rfl⟩ ⟨rfl, by decide, by decide, pd_X7_of⟩ ⟨Nat.le_of_ble_eq_true rfl, Nat.le_of_ble_eq_true rfl⟩ ⟨Nat.zero_le _, Nat.zero_le _⟩ (Nat.le_of_ble_eq_true rfl) dX7_canPair_62 rfl hp9 (fun v9 h62 hq9 => ?_)
        obtain ⟨r62, rfl, hw⟩ := hq9
        obtain ⟨k_97, hk_97, hw⟩ := jn_out hw
        have J_97 : ∀ (t0_97 : Int) (h_97 : AH), k_97 t0_97 h_97 → AW G p l e ({ frames := 2, cells := 0, slots := 0, locals := 45 } : Room) s m args below meth c 0 0 (MQ below (QG G (oI Q)) args s 0 0 (frA G)) 97 (eOf [(0, vR a0), (1, vI a1), (2, vI a2), (3, vI a3), (4, vI t0_28), (5, vI t0_58)]) [vI t0_97] h_97 := by
          intro t0_97 h_97 hw
          rw [hk_97] at hw
          refine aw_istore (pc := 97) C dX7_canPair_97 (by rw [hml]; decide) ?_
          refine aw_iload (pc := 99) C dX7_canPair_99 rfl ?_
          obtain ⟨k_133, hk_133, hw⟩ := jn_out hw
          have J_133 : ∀ (t0_133 : Int) (h_133 : AH), k_133 t0_133 h_133 → AW G p l e ({ frames := 2, cells := 0, slots := 0, locals := 45 } : Room) s m args below meth c 0 0 (MQ below (QG G (oI Q)) args s 0 0 (frA G)) 133 (eOf []) [vI t0_133] h_133 := by
            intro t0_133 h_133 hw
            rw [hk_133] at hw
            obtain ⟨hp9, hw⟩ := hw
            exact aw_zret (pc := 133) C hr dX7_canPair_133 ⟨Nat.le_of_ble_eq_true rfl, Nat.le_of_ble_eq_true rfl⟩ hp9 ⟨_, rfl, hw⟩
          obtain ⟨k_132, hk_132, hw⟩ := jn_out hw
          have J_132 : ∀  (h_132 : AH), k_132  h_132 → AW G p l e ({ frames := 2, cells := 0, slots := 0, locals := 45 } : Room) s m args below meth c 0 0 (MQ below (QG G (oI Q)) args s 0 0 (frA G)) 132 (eOf []) [] h_132 := by
            intro  h_132 hw
            rw [hk_132] at hw
            refine aw_iconst (pc := 132) C dX7_canPair_132 (i := (0 : Int)) (by decide) ?_
            refine aw_sub [] trivial ?_
            exact J_133 _ _ hw
          refine aw_if_eq (pc := 101) (tgt := 132) C dX7_canPair_101 (by decide) (fun hc9 => ?_) (fun hc9 => ?_)
          · have hw := hw.1 hc9
            refine aw_sub [] trivial ?_
            exact J_132  _ hw
          · have hw := hw.2 hc9
            refine aw_iload (pc := 104) C dX7_canPair_104 rfl ?_
            refine aw_if_eq (pc := 106) (tgt := 132) C dX7_canPair_106 (by decide) (fun hc9 => ?_) (fun hc9 => ?_)
            · have hw := hw.1 hc9
              refine aw_sub [] trivial ?_
              exact J_132  _ hw
            · have hw := hw.2 hc9
              refine aw_iload (pc := 109) C dX7_canPair_109 rfl ?_
              refine aw_if_eq (pc := 111) (tgt := 132) C dX7_canPair_111 (by decide) (fun hc9 => ?_) (fun hc9 => ?_)
              · have hw := hw.1 hc9
                refine aw_sub [] trivial ?_
                exact J_132  _ hw
              · have hw := hw.2 hc9
                refine aw_iload_n (pc := 114) C dX7_canPair_114 rfl rfl ?_
                refine aw_iconst (pc := 115) C dX7_canPair_115 (i := (3 : Int)) (by decide) ?_
                obtain ⟨k_128, hk_128, hw⟩ := jn_out hw
                have J_128 : ∀  (h_128 : AH), k_128  h_128 → AW G p l e ({ frames := 2, cells := 0, slots := 0, locals := 45 } : Room) s m args below meth c 0 0 (MQ below (QG G (oI Q)) args s 0 0 (frA G)) 128 (eOf []) [] h_128 := by
                  intro  h_128 hw
                  rw [hk_128] at hw
                  refine aw_iconst (pc := 128) C dX7_canPair_128 (i := (1 : Int)) (by decide) ?_
                  refine aw_goto (pc := 129) (tgt := 133) C dX7_canPair_129 (by decide) ?_
                  refine aw_sub [] trivial ?_
                  exact J_133 _ _ hw
                refine aw_icmp_eq (pc := 116) (tgt := 128) C dX7_canPair_116 (by decide) (fun hc9 => ?_) (fun hc9 => ?_)
                · have hw := hw.1 hc9
                  refine aw_sub [] trivial ?_
                  exact J_128  _ hw
                · have hw := hw.2 hc9
                  refine aw_aload_n (pc := 119) C dX7_canPair_119 rfl rfl ?_
                  refine aw_iload_n (pc := 120) C dX7_canPair_120 rfl rfl ?_
                  refine aw_iload_n (pc := 121) C dX7_canPair_121 rfl rfl ?_
                  obtain ⟨hp9, hw⟩ := hw
                  refine aw_callV (pc := 122) (as := [vI a1, vI a2]) C ci7 (fun As hA => met_X7_areEqual G l As a0 a1 a2 _ _ hA hw) tw922 tw924 (tbp 41 (n := 21) (by decide +kernel)) tw10 tw925 ⟨rfl, rfl⟩ ⟨rfl, by decide, by decide, pd_X7_areEqual⟩ ⟨Nat.le_of_ble_eq_true rfl, Nat.le_of_ble_eq_true rfl⟩ ⟨Nat.zero_le _, Nat.zero_le _⟩ (Nat.le_of_ble_eq_true rfl) dX7_canPair_122 rfl hp9 (fun v9 h122 hq9 => ?_)
                  obtain ⟨r122, rfl, hw⟩ := hq9
                  refine aw_if_eq (pc := 125) (tgt := 132) C dX7_canPair_125 (by decide) (fun hc9 => ?_) (fun hc9 => ?_)
                  · have hw := hw.1 hc9
                    refine aw_sub [] trivial ?_
                    exact J_132  _ hw
                  · have hw := hw.2 hc9
                    refine aw_sub [] trivial ?_
                    exact J_128  _ hw
        obtain ⟨k_92, hk_92, hw⟩ := jn_out hw
        have J_92 : ∀  (h_92 : AH), k_92  h_92 → AW G p l e ({ frames := 2, cells := 0, slots := 0, locals := 45 } : Room) s m args below meth c 0 0 (MQ below (QG G (oI Q)) args s 0 0 (frA G)) 92 (eOf [(0, vR a0), (1, vI a1), (2, vI a2), (3, vI a3), (4, vI t0_28), (5, vI t0_58)]) [] h_92 := by
          intro  h_92 hw
          rw [hk_92] at hw
          refine aw_iconst (pc := 92) C dX7_canPair_92 (i := (1 : Int)) (by decide) ?_
          refine aw_goto (pc := 93) (tgt := 97) C dX7_canPair_93 (by decide) ?_
          refine aw_sub [(0, vR a0), (1, vI a1), (2, vI a2), (3, vI a3), (4, vI t0_28), (5, vI t0_58)] ⟨rfl, rfl, rfl, rfl, rfl, rfl, trivial⟩ ?_
          exact J_97 _ _ hw
        refine aw_if_eq (pc := 65) (tgt := 92) C dX7_canPair_65 (by decide) (fun hc9 => ?_) (fun hc9 => ?_)
        · have hw := hw.1 hc9
          refine aw_sub [(0, vR a0), (1, vI a1), (2, vI a2), (3, vI a3), (4, vI t0_28), (5, vI t0_58)] ⟨rfl, rfl, rfl, rfl, rfl, rfl, trivial⟩ ?_
          exact J_92  _ hw
        · have hw := hw.2 hc9
          refine aw_aload_n (pc := 68) C dX7_canPair_68 rfl rfl ?_
          obtain ⟨hp9, b69, hb9, hw⟩ := hw
          refine aw_getR (pc := 69) C (ci := 7) (k := 7) ci7 (by decide) tw799 dX7_canPair_69 rfl hp9 hb9 ?_
          refine aw_iload_n (pc := 72) C dX7_canPair_72 rfl rfl ?_
          obtain ⟨⟨k9, hp9⟩, hw⟩ := hw
          refine aw_iald (pc := 73) C dX7_canPair_73 hp9 ?_
          refine aw_bipush (pc := 74) C dX7_canPair_74 (i := (16 : Int)) (by decide) ?_
          obtain ⟨hp9, hw⟩ := hw
          refine aw_idiv (pc := 76) C dX7_canPair_76 hp9 ?_
          refine aw_aload_n (pc := 77) C dX7_canPair_77 rfl rfl ?_
          obtain ⟨hp9, b78, hb9, hw⟩ := hw
          refine aw_getR (pc := 78) C (ci := 7) (k := 7) ci7 (by decide) tw799 dX7_canPair_78 rfl hp9 hb9 ?_
          refine aw_bipush (pc := 81) C dX7_canPair_81 (i := (40 : Int)) (by decide) ?_
          refine aw_iload_n (pc := 83) C dX7_canPair_83 rfl rfl ?_
          obtain ⟨hp9, hw⟩ := hw
          refine aw_iadd (pc := 84) C dX7_canPair_84 hp9 ?_
          obtain ⟨⟨k9, hp9⟩, hw⟩ := hw
          refine aw_iald (pc := 85) C dX7_canPair_85 hp9 ?_
          refine aw_bipush (pc := 86) C dX7_canPair_86 (i := (16 : Int)) (by decide) ?_
          obtain ⟨hp9, hw⟩ := hw
          refine aw_idiv (pc := 88) C dX7_canPair_88 hp9 ?_
          refine aw_icmp_ne (pc := 89) (tgt := 96) C dX7_canPair_89 (by decide) (fun hc9 => ?_) (fun hc9 => ?_)
          · have hw := hw.1 hc9
            refine aw_iconst (pc := 96) C dX7_canPair_96 (i := (0 : Int)) (by decide) ?_
            refine aw_sub [(0, vR a0), (1, vI a1), (2, vI a2), (3, vI a3), (4, vI t0_28), (5, vI t0_58)] ⟨rfl, rfl, rfl, rfl, rfl, rfl, trivial⟩ ?_
            exact J_97 _ _ hw
          · have hw := hw.2 hc9
            refine aw_sub [(0, vR a0), (1, vI a1), (2, vI a2), (3, vI a3), (4, vI t0_28), (5, vI t0_58)] ⟨rfl, rfl, rfl, rfl, rfl, rfl, trivial⟩ ?_
            exact J_92  _ hw
      refine aw_icmp_gt (pc := 50) (tgt := 57) C dX7_canPair_50 (by decide) (fun hc9 => ?_) (fun hc9 => ?_)
      · have hw := hw.1 hc9
        refine aw_iconst (pc := 57) C dX7_canPair_57 (i := (0 : Int)) (by decide) ?_
        refine aw_sub [(0, vR a0), (1, vI a1), (2, vI a2), (3, vI a3), (4, vI t0_28)] ⟨rfl, rfl, rfl, rfl, rfl, trivial⟩ ?_
        exact J_58 _ _ hw
      · have hw := hw.2 hc9
        refine aw_iconst (pc := 53) C dX7_canPair_53 (i := (1 : Int)) (by decide) ?_
        refine aw_goto (pc := 54) (tgt := 58) C dX7_canPair_54 (by decide) ?_
        refine aw_sub [(0, vR a0), (1, vI a1), (2, vI a2), (3, vI a3), (4, vI t0_28)] ⟨rfl, rfl, rfl, rfl, rfl, trivial⟩ ?_
        exact J_58 _ _ hw
    refine aw_icmp_ne (pc := 39) (tgt := 46) C dX7_canPair_39 (by decide) (fun hc9 => ?_) (fun hc9 => ?_)
    · have hw := hw.1 hc9
      refine aw_iconst (pc := 46) C dX7_canPair_46 (i := (2 : Int)) (by decide) ?_
      refine aw_sub [(0, vR a0), (1, vI a1), (2, vI a2), (3, vI a3), (4, vI t0_28)] ⟨rfl, rfl, rfl, rfl, rfl, trivial⟩ ?_
      exact J_47 _ _ hw
    · have hw := hw.2 hc9
      refine aw_iconst (pc := 42) C dX7_canPair_42 (i := (1 : Int)) (by decide) ?_
      refine aw_goto (pc := 43) (tgt := 47) C dX7_canPair_43 (by decide) ?_
      refine aw_sub [(0, vR a0), (1, vI a1), (2, vI a2), (3, vI a3), (4, vI t0_28)] ⟨rfl, rfl, rfl, rfl, rfl, trivial⟩ ?_
      exact J_47 _ _ hw
  obtain ⟨k_27, hk_27, hw⟩ := jn_out hw
  have J_27 : ∀  (h_27 : AH), k_27  h_27 → AW G p l e ({ frames := 2, cells := 0, slots := 0, locals := 45 } : Room) s m args below meth c 0 0 (MQ below (QG G (oI Q)) args s 0 0 (frA G)) 27 (eOf [(0, vR a0), (1, vI a1), (2, vI a2), (3, vI a3)]) [] h_27 := by
    intro  h_27 hw
    rw [hk_27] at hw
    refine aw_iconst (pc := 27) C dX7_canPair_27 (i := (0 : Int)) (by decide) ?_
    refine aw_sub [(0, vR a0), (1, vI a1), (2, vI a2), (3, vI a3)] ⟨rfl, rfl, rfl, rfl, trivial⟩ ?_
    exact J_28 _ _ hw
  refine aw_icmp_ne (pc := 7) (tgt := 27) C dX7_canPair_7 (by decide) (fun hc9 => ?_) (fun hc9 => ?_)
  · have hw := hw.1 hc9
    refine aw_sub [(0, vR a0), (1, vI a1), (2, vI a2), (3, vI a3)] ⟨rfl, rfl, rfl, rfl, trivial⟩ ?_
    exact J_27  _ hw
  · have hw := hw.2 hc9
    refine aw_aload_n (pc := 10) C dX7_canPair_10 rfl rfl ?_
    obtain ⟨hp9, b11, hb9, hw⟩ := hw
    refine aw_getR (pc := 11) C (ci := 7) (k := 9) ci7 (by decide) tw801 dX7_canPair_11 rfl hp9 hb9 ?_
    refine aw_bipush (pc := 14) C dX7_canPair_14 (i := (40 : Int)) (by decide) ?_
    refine aw_iload_n (pc := 16) C dX7_canPair_16 rfl rfl ?_
    obtain ⟨hp9, hw⟩ := hw
    refine aw_iadd (pc := 17) C dX7_canPair_17 hp9 ?_
    obtain ⟨⟨k9, hp9⟩, hw⟩ := hw
    refine aw_iald (pc := 18) C dX7_canPair_18 hp9 ?_
    refine aw_iconst (pc := 19) C dX7_canPair_19 (i := (-1 : Int)) (by decide) ?_
    refine aw_icmp_ne (pc := 20) (tgt := 27) C dX7_canPair_20 (by decide) (fun hc9 => ?_) (fun hc9 => ?_)
    · have hw := hw.1 hc9
      refine aw_sub [(0, vR a0), (1, vI a1), (2, vI a2), (3, vI a3)] ⟨rfl, rfl, rfl, rfl, trivial⟩ ?_
      exact J_27  _ hw
    · have hw := hw.2 hc9
      refine aw_iconst (pc := 23) C dX7_canPair_23 (i := (1 : Int)) (by decide) ?_
      refine aw_goto (pc := 24) (tgt := 28) C dX7_canPair_24 (by decide) ?_
      refine aw_sub [(0, vR a0), (1, vI a1), (2, vI a2), (3, vI a3)] ⟨rfl, rfl, rfl, rfl, trivial⟩ ?_
      exact J_28 _ _ hw
theorem dX7_layNearest_0 : decode cX7_layNearest 0 = .ok (.iconst 1, 1) := by decide +kernel
theorem dX7_layNearest_1 : decode cX7_layNearest 1 = .ok (.istore_n 2, 1) := by decide +kernel
theorem dX7_layNearest_2 : decode cX7_layNearest 2 = .ok (.iload_n 2, 1) := by decide +kernel
theorem dX7_layNearest_3 : decode cX7_layNearest 3 = .ok (.ifCond .eq 116, 3) := by decide +kernel
theorem dX7_layNearest_6 : decode cX7_layNearest 6 = .ok (.iconst (-1), 1) := by decide +kernel
theorem dX7_layNearest_7 : decode cX7_layNearest 7 = .ok (.istore_n 3, 1) := by decide +kernel
theorem dX7_layNearest_8 : decode cX7_layNearest 8 = .ok (.iconst (-1), 1) := by decide +kernel
theorem dX7_layNearest_9 : decode cX7_layNearest 9 = .ok (.istore 4, 2) := by decide +kernel
theorem dX7_layNearest_11 : decode cX7_layNearest 11 = .ok (.iconst 0, 1) := by decide +kernel
theorem dX7_layNearest_12 : decode cX7_layNearest 12 = .ok (.istore 5, 2) := by decide +kernel
theorem dX7_layNearest_14 : decode cX7_layNearest 14 = .ok (.iload 5, 2) := by decide +kernel
theorem dX7_layNearest_16 : decode cX7_layNearest 16 = .ok (.aload_n 0, 1) := by decide +kernel
theorem dX7_layNearest_17 : decode cX7_layNearest 17 = .ok (.getfield 19, 3) := by decide +kernel
theorem dX7_layNearest_20 : decode cX7_layNearest 20 = .ok (.iconst 0, 1) := by decide +kernel
theorem dX7_layNearest_21 : decode cX7_layNearest 21 = .ok (.iaload, 1) := by decide +kernel
theorem dX7_layNearest_22 : decode cX7_layNearest 22 = .ok (.if_icmp .ge 71, 3) := by decide +kernel
theorem dX7_layNearest_25 : decode cX7_layNearest 25 = .ok (.iconst 0, 1) := by decide +kernel
theorem dX7_layNearest_26 : decode cX7_layNearest 26 = .ok (.istore 6, 2) := by decide +kernel
theorem dX7_layNearest_28 : decode cX7_layNearest 28 = .ok (.iload 6, 2) := by decide +kernel
theorem dX7_layNearest_30 : decode cX7_layNearest 30 = .ok (.aload_n 0, 1) := by decide +kernel
theorem dX7_layNearest_31 : decode cX7_layNearest 31 = .ok (.getfield 19, 3) := by decide +kernel
theorem dX7_layNearest_34 : decode cX7_layNearest 34 = .ok (.iconst 1, 1) := by decide +kernel
theorem dX7_layNearest_35 : decode cX7_layNearest 35 = .ok (.iaload, 1) := by decide +kernel
theorem dX7_layNearest_36 : decode cX7_layNearest 36 = .ok (.if_icmp .ge 51, 3) := by decide +kernel
theorem dX7_layNearest_39 : decode cX7_layNearest 39 = .ok (.aload_n 0, 1) := by decide +kernel
theorem dX7_layNearest_40 : decode cX7_layNearest 40 = .ok (.iload 5, 2) := by decide +kernel
theorem dX7_layNearest_42 : decode cX7_layNearest 42 = .ok (.iload 6, 2) := by decide +kernel
theorem dX7_layNearest_44 : decode cX7_layNearest 44 = .ok (.iload_n 1, 1) := by decide +kernel
theorem dX7_layNearest_45 : decode cX7_layNearest 45 = .ok (.invokevirtual 88, 3) := by decide +kernel
theorem dX7_layNearest_48 : decode cX7_layNearest 48 = .ok (.ifCond .eq 33, 3) := by decide +kernel
theorem dX7_layNearest_51 : decode cX7_layNearest 51 = .ok (.iload_n 3, 1) := by decide +kernel
theorem dX7_layNearest_52 : decode cX7_layNearest 52 = .ok (.iconst (-1), 1) := by decide +kernel
theorem dX7_layNearest_53 : decode cX7_layNearest 53 = .ok (.if_icmp .eq 21, 3) := by decide +kernel
theorem dX7_layNearest_56 : decode cX7_layNearest 56 = .ok (.aload_n 0, 1) := by decide +kernel
theorem dX7_layNearest_57 : decode cX7_layNearest 57 = .ok (.iload 5, 2) := by decide +kernel
theorem dX7_layNearest_59 : decode cX7_layNearest 59 = .ok (.iload 6, 2) := by decide +kernel
theorem dX7_layNearest_61 : decode cX7_layNearest 61 = .ok (.invokevirtual 84, 3) := by decide +kernel
theorem dX7_layNearest_64 : decode cX7_layNearest 64 = .ok (.aload_n 0, 1) := by decide +kernel
theorem dX7_layNearest_65 : decode cX7_layNearest 65 = .ok (.iload_n 3, 1) := by decide +kernel
theorem dX7_layNearest_66 : decode cX7_layNearest 66 = .ok (.iload 4, 2) := by decide +kernel
theorem dX7_layNearest_68 : decode cX7_layNearest 68 = .ok (.invokevirtual 84, 3) := by decide +kernel
theorem dX7_layNearest_71 : decode cX7_layNearest 71 = .ok (.if_icmp .ge 10, 3) := by decide +kernel
theorem dX7_layNearest_74 : decode cX7_layNearest 74 = .ok (.iload 5, 2) := by decide +kernel
theorem dX7_layNearest_76 : decode cX7_layNearest 76 = .ok (.istore_n 3, 1) := by decide +kernel
theorem dX7_layNearest_77 : decode cX7_layNearest 77 = .ok (.iload 6, 2) := by decide +kernel
theorem dX7_layNearest_79 : decode cX7_layNearest 79 = .ok (.istore 4, 2) := by decide +kernel
theorem dX7_layNearest_81 : decode cX7_layNearest 81 = .ok (.iinc 6 1, 3) := by decide +kernel
theorem dX7_layNearest_84 : decode cX7_layNearest 84 = .ok (.goto (-56), 3) := by decide +kernel
theorem dX7_layNearest_87 : decode cX7_layNearest 87 = .ok (.iinc 5 1, 3) := by decide +kernel
theorem dX7_layNearest_90 : decode cX7_layNearest 90 = .ok (.goto (-76), 3) := by decide +kernel
theorem dX7_layNearest_93 : decode cX7_layNearest 93 = .ok (.iload_n 3, 1) := by decide +kernel
theorem dX7_layNearest_94 : decode cX7_layNearest 94 = .ok (.iconst (-1), 1) := by decide +kernel
theorem dX7_layNearest_95 : decode cX7_layNearest 95 = .ok (.if_icmp .eq 7, 3) := by decide +kernel
theorem dX7_layNearest_98 : decode cX7_layNearest 98 = .ok (.iconst 1, 1) := by decide +kernel
theorem dX7_layNearest_99 : decode cX7_layNearest 99 = .ok (.goto 4, 3) := by decide +kernel
theorem dX7_layNearest_102 : decode cX7_layNearest 102 = .ok (.iconst 0, 1) := by decide +kernel
theorem dX7_layNearest_103 : decode cX7_layNearest 103 = .ok (.istore_n 2, 1) := by decide +kernel
theorem dX7_layNearest_104 : decode cX7_layNearest 104 = .ok (.iload_n 2, 1) := by decide +kernel
theorem dX7_layNearest_105 : decode cX7_layNearest 105 = .ok (.ifCond .eq 11, 3) := by decide +kernel
theorem dX7_layNearest_108 : decode cX7_layNearest 108 = .ok (.aload_n 0, 1) := by decide +kernel
theorem dX7_layNearest_109 : decode cX7_layNearest 109 = .ok (.iload_n 3, 1) := by decide +kernel
theorem dX7_layNearest_110 : decode cX7_layNearest 110 = .ok (.iload 4, 2) := by decide +kernel
theorem dX7_layNearest_112 : decode cX7_layNearest 112 = .ok (.iload_n 1, 1) := by decide +kernel
theorem dX7_layNearest_113 : decode cX7_layNearest 113 = .ok (.invokevirtual 80, 3) := by decide +kernel
theorem dX7_layNearest_116 : decode cX7_layNearest 116 = .ok (.goto (-114), 3) := by decide +kernel
theorem dX7_layNearest_119 : decode cX7_layNearest 119 = .ok (.return_, 1) := by decide +kernel
theorem pd_X7_layNearest : (parseMethodDescriptor yX7_layNearest.desc).map (fun d => d.parameters.length) = some 1 := by decide +kernel
def w_X7_layNearest (zz : Nat → Nat) (a0 : Nat) (a1 : Int) (h : AH) (Q : AH → Prop) : Prop := ∃ I_2 : Nat → Int → AH → Prop, (∃ n, I_2 n (1 : Int) h) ∧ ∀ (n_2 : Nat) (x2_2 : Int) (h_2 : AH), I_2 n_2 x2_2 h_2 → (((x2_2 = 0) → Q h_2) ∧ ((¬ (x2_2 = 0)) → ∃ I_14 : Nat → Int → Int → Int → AH → Prop, (∃ n, I_14 n (-1 : Int) (-1 : Int) (0 : Int) h_2) ∧ ∀ (n_14 : Nat) (x3_14 : Int) (x4_14 : Int) (x5_14 : Int) (h_14 : AH), I_14 n_14 x3_14 x4_14 x5_14 h_14 → (okA h_14 a0 7 ∧ ∃ b17 : Nat, hfR h_14 a0 6 = some b17 ∧ okI h_14 b17 (0 : Int) ∧ (((haI h_14 b17 (0 : Int)) ≤ x5_14) → jn (fun (t0_103 : Int) (h_103 : AH) => jn (fun  (h_116 : AH) => ∃ m, m < n_2 ∧ I_2 m t0_103 h_116) (fun k_116 : AH → Prop => ((t0_103 = 0) → k_116  h_103) ∧ ((¬ (t0_103 = 0)) → okA h_103 a0 7 ∧ w_X7_pair zz a0 x3_14 x4_14 a1 h_103 (fun  (h113 : AH) => k_116  h113)))) (fun k_103 : Int → AH → Prop => ((x3_14 = (-1 : Int)) → k_103 (0 : Int) h_14) ∧ ((¬ (x3_14 = (-1 : Int))) → k_103 (1 : Int) h_14))) ∧ ((¬ ((haI h_14 b17 (0 : Int)) ≤ x5_14)) → ∃ I_28 : Nat → Int → Int → Int → AH → Prop, (∃ n, I_28 n x3_14 x4_14 (0 : Int) h_14) ∧ ∀ (n_28 : Nat) (x3_28 : Int) (x4_28 : Int) (x6_28 : Int) (h_28 : AH), I_28 n_28 x3_28 x4_28 x6_28 h_28 → (okA h_28 a0 7 ∧ ∃ b31 : Nat, hfR h_28 a0 6 = some b31 ∧ okI h_28 b31 (1 : Int) ∧ (((haI h_28 b31 (1 : Int)) ≤ x6_28) → inR (x5_14 + 1) ∧ ∀ x5_87 : Int, x5_87 = (x5_14 + 1) → ∃ m, m < n_14 ∧ I_14 m x3_28 x4_28 x5_87 h_28) ∧ ((¬ ((haI h_28 b31 (1 : Int)) ≤ x6_28)) → okA h_28 a0 7 ∧ w_X7_canPair zz a0 x5_14 x6_28 a1 h_28 (fun (r45 : Int) (h45 : AH) => jn (fun (x3_81 : Int) (x4_81 : Int) (h_81 : AH) => inR (x6_28 + 1) ∧ ∀ x6_81 : Int, x6_81 = (x6_28 + 1) → ∃ m, m < n_28 ∧ I_28 m x3_81 x4_81 x6_81 h_81) (fun k_81 : Int → Int → AH → Prop => ((r45 = 0) → k_81 x3_28 x4_28 h45) ∧ ((¬ (r45 = 0)) → jn (fun  (h_74 : AH) => k_81 x5_14 x6_28 h_74) (fun k_74 : AH → Prop => ((x3_28 = (-1 : Int)) → k_74  h45) ∧ ((¬ (x3_28 = (-1 : Int))) → okA h45 a0 7 ∧ w_X7_distance zz a0 x5_14 x6_28 h45 (fun (r61 : Int) (h61 : AH) => okA h61 a0 7 ∧ w_X7_distance zz a0 x3_28 x4_28 h61 (fun (r68 : Int) (h68 : AH) => ((r68 ≤ r61) → k_81 x3_28 x4_28 h68) ∧ ((¬ (r68 ≤ r61)) → k_74  h68))))))))))))))
set_option maxRecDepth 100000 in
set_option maxHeartbeats 4000000 in
theorem met_X7_layNearest (G : GG) (l : Launch) : ∀ (As : List Value) (a0 : Nat) (a1 : Int) (h : AH) (Q : AH → Prop), As.map ab = List.map some ([vR a0, vI a1] : List AV) → w_X7_layNearest G.2.2 a0 a1 h Q → Met l yX7_layNearest (.code yX7_layNearest cX7_layNearest 7 none :: xTb) ({ frames := 3, cells := 0, slots := 0, locals := 71 } : Room) (PcA G As h) (QG G (oV Q)) 0 0 (frA G) := by
  intro As a0 a1 h Q hA hw
  refine met_of hA (by decide) (Nat.le_of_ble_eq_true rfl) (fun p e s m args below meth c C hml hr hnm => ?_)
  unfold w_X7_layNearest at hw
  refine aw_iconst (pc := 0) C dX7_layNearest_0 (i := (1 : Int)) (by decide) ?_
  refine aw_istore_n (pc := 1) C dX7_layNearest_1 rfl (by rw [hml]; decide) ?_
  obtain ⟨I_2, ⟨n9, hi9⟩, hst9⟩ := hw
  have L_2 : ∀ (n_2 : Nat) (x2_2 : Int) (h_2 : AH), I_2 n_2 x2_2 h_2 → AW G p l e ({ frames := 3, cells := 0, slots := 0, locals := 71 } : Room) s m args below meth c 0 0 (MQ below (QG G (oV Q)) args s 0 0 (frA G)) 2 (eOf [(0, vR a0), (1, vI a1), (2, vI x2_2)]) [] h_2 := by
    intro n_2
    induction n_2 using Nat.strongRecOn with
    | _ n_2 ih_2 =>
    intro x2_2 h_2 hi9
    have hw := hst9 n_2 x2_2 h_2 hi9
    refine aw_iload_n (pc := 2) C dX7_layNearest_2 rfl rfl ?_
    refine aw_if_eq (pc := 3) (tgt := 119) C dX7_layNearest_3 (by decide) (fun hc9 => ?_) (fun hc9 => ?_)
    · have hw := hw.1 hc9
      exact aw_vret (pc := 119) C hr dX7_layNearest_119 ⟨Nat.le_of_ble_eq_true rfl, Nat.le_of_ble_eq_true rfl⟩ ⟨rfl, hw⟩
    · have hw := hw.2 hc9
      refine aw_iconst (pc := 6) C dX7_layNearest_6 (i := (-1 : Int)) (by decide) ?_
      refine aw_istore_n (pc := 7) C dX7_layNearest_7 rfl (by rw [hml]; decide) ?_
      refine aw_iconst (pc := 8) C dX7_layNearest_8 (i := (-1 : Int)) (by decide) ?_
      refine aw_istore (pc := 9) C dX7_layNearest_9 (by rw [hml]; decide) ?_
      refine aw_iconst (pc := 11) C dX7_layNearest_11 (i := (0 : Int)) (by decide) ?_
      refine aw_istore (pc := 12) C dX7_layNearest_12 (by rw [hml]; decide) ?_
      obtain ⟨I_14, ⟨n9, hi9⟩, hst9⟩ := hw
      have L_14 : ∀ (n_14 : Nat) (x3_14 : Int) (x4_14 : Int) (x5_14 : Int) (h_14 : AH), I_14 n_14 x3_14 x4_14 x5_14 h_14 → AW G p l e ({ frames := 3, cells := 0, slots := 0, locals := 71 } : Room) s m args below meth c 0 0 (MQ below (QG G (oV Q)) args s 0 0 (frA G)) 14 (eOf [(0, vR a0), (1, vI a1), (3, vI x3_14), (4, vI x4_14), (5, vI x5_14)]) [] h_14 := by
        intro n_14
        induction n_14 using Nat.strongRecOn with
        | _ n_14 ih_14 =>
        intro x3_14 x4_14 x5_14 h_14 hi9
        have hw := hst9 n_14 x3_14 x4_14 x5_14 h_14 hi9
        refine aw_iload (pc := 14) C dX7_layNearest_14 rfl ?_
        refine aw_aload_n (pc := 16) C dX7_layNearest_16 rfl rfl ?_
        obtain ⟨hp9, b17, hb9, hw⟩ := hw
        refine aw_getR (pc := 17) C (ci := 7) (k := 6) ci7 (by decide) tw798 dX7_layNearest_17 rfl hp9 hb9 ?_
        refine aw_iconst (pc := 20) C dX7_layNearest_20 (i := (0 : Int)) (by decide) ?_
        obtain ⟨⟨k9, hp9⟩, hw⟩ := hw
        refine aw_iald (pc := 21) C dX7_layNearest_21 hp9 ?_
        refine aw_icmp_ge (pc := 22) (tgt := 93) C dX7_layNearest_22 (by decide) (fun hc9 => ?_) (fun hc9 => ?_)
        · have hw := hw.1 hc9
          refine aw_iload_n (pc := 93) C dX7_layNearest_93 rfl rfl ?_
          refine aw_iconst (pc := 94) C dX7_layNearest_94 (i := (-1 : Int)) (by decide) ?_
          obtain ⟨k_103, hk_103, hw⟩ := jn_out hw
          have J_103 : ∀ (t0_103 : Int) (h_103 : AH), k_103 t0_103 h_103 → AW G p l e ({ frames := 3, cells := 0, slots := 0, locals := 71 } : Room) s m args below meth c 0 0 (MQ below (QG G (oV Q)) args s 0 0 (frA G)) 103 (eOf [(0, vR a0), (1, vI a1), (3, vI x3_14), (4, vI x4_14)]) [vI t0_103] h_103 := by
            intro t0_103 h_103 hw
            rw [hk_103] at hw
            refine aw_istore_n (pc := 103) C dX7_layNearest_103 rfl (by rw [hml]; decide) ?_
            refine aw_iload_n (pc := 104) C dX7_layNearest_104 rfl rfl ?_
            obtain ⟨k_116, hk_116, hw⟩ := jn_out hw
            have J_116 : ∀  (h_116 : AH), k_116  h_116 → AW G p l e ({ frames := 3, cells := 0, slots := 0, locals := 71 } : Room) s m args below meth c 0 0 (MQ below (QG G (oV Q)) args s 0 0 (frA G)) 116 (eOf [(0, vR a0), (1, vI a1), (2, vI t0_103)]) [] h_116 := by
              intro  h_116 hw
              rw [hk_116] at hw
              refine aw_goto (pc := 116) (tgt := 2) C dX7_layNearest_116 (by decide) ?_
              obtain ⟨m9, hm9, hw⟩ := hw
              refine aw_sub [(0, vR a0), (1, vI a1), (2, vI t0_103)] ⟨rfl, rfl, rfl, trivial⟩ ?_
              exact ih_2 m9 hm9 _ _ hw
            refine aw_if_eq (pc := 105) (tgt := 116) C dX7_layNearest_105 (by decide) (fun hc9 => ?_) (fun hc9 => ?_)
            · have hw := hw.1 hc9
              refine aw_sub [(0, vR a0), (1, vI a1), (2, vI t0_103)] ⟨rfl, rfl, rfl, trivial⟩ ?_
              exact J_116  _ hw
            · have hw := hw.2 hc9
              refine aw_aload_n (pc := 108) C dX7_layNearest_108 rfl rfl ?_
              refine aw_iload_n (pc := 109) C dX7_layNearest_109 rfl rfl ?_
              refine aw_iload (pc := 110) C dX7_layNearest_110 rfl ?_
              refine aw_iload_n (pc := 112) C dX7_layNearest_112 rfl rfl ?_
              obtain ⟨hp9, hw⟩ := hw
              refine aw_callV (pc := 113) (as := [vI x3_14, vI x4_14, vI a1]) C ci7 (fun As hA => met_X7_pair G l As a0 x3_14 x4_14 a1 _ _ hA hw) tw926 tw928 (tbp 42 (n := 21) (by decide +kernel)) tw10 tw929 ⟨rfl, rfl⟩ ⟨rfl, by decide, by decide, pd_X7_pair⟩ ⟨Nat.le_of_ble_eq_true rfl, Nat.le_of_ble_eq_true rfl⟩ ⟨Nat.zero_le _, Nat.zero_le _⟩ (Nat.le_of_ble_eq_true rfl) dX7_layNearest_113 rfl hp9 (fun v9 h113 hq9 => ?_)
              obtain ⟨rfl, hw⟩ := hq9
              refine aw_sub [(0, vR a0), (1, vI a1), (2, vI t0_103)] ⟨rfl, rfl, rfl, trivial⟩ ?_
              exact J_116  _ hw
          refine aw_icmp_eq (pc := 95) (tgt := 102) C dX7_layNearest_95 (by decide) (fun hc9 => ?_) (fun hc9 => ?_)
          · have hw := hw.1 hc9
            refine aw_iconst (pc := 102) C dX7_layNearest_102 (i := (0 : Int)) (by decide) ?_
            refine aw_sub [(0, vR a0), (1, vI a1), (3, vI x3_14), (4, vI x4_14)] ⟨rfl, rfl, rfl, rfl, trivial⟩ ?_
            exact J_103 _ _ hw
          · have hw := hw.2 hc9
            refine aw_iconst (pc := 98) C dX7_layNearest_98 (i := (1 : Int)) (by decide) ?_
            refine aw_goto (pc := 99) (tgt := 103) C dX7_layNearest_99 (by decide) ?_
            refine aw_sub [(0, vR a0), (1, vI a1), (3, vI x3_14), (4, vI x4_14)] ⟨rfl, rfl, rfl, rfl, trivial⟩ ?_
            exact J_103 _ _ hw
        · have hw := hw.2 hc9
          refine aw_iconst (pc := 25) C dX7_layNearest_25 (i := (0 : Int)) (by decide) ?_
          refine aw_istore (pc := 26) C dX7_layNearest_26 (by rw [hml]; decide) ?_
          obtain ⟨I_28, ⟨n9, hi9⟩, hst9⟩ := hw
          have L_28 : ∀ (n_28 : Nat) (x3_28 : Int) (x4_28 : Int) (x6_28 : Int) (h_28 : AH), I_28 n_28 x3_28 x4_28 x6_28 h_28 → AW G p l e ({ frames := 3, cells := 0, slots := 0, locals := 71 } : Room) s m args below meth c 0 0 (MQ below (QG G (oV Q)) args s 0 0 (frA G)) 28 (eOf [(0, vR a0), (1, vI a1), (3, vI x3_28), (4, vI x4_28), (5, vI x5_14), (6, vI x6_28)]) [] h_28 := by
            intro n_28
            induction n_28 using Nat.strongRecOn with
            | _ n_28 ih_28 =>
            intro x3_28 x4_28 x6_28 h_28 hi9
            have hw := hst9 n_28 x3_28 x4_28 x6_28 h_28 hi9
            refine aw_iload (pc := 28) C dX7_layNearest_28 rfl ?_
            refine aw_aload_n (pc := 30) C dX7_layNearest_30 rfl rfl ?_
            obtain ⟨hp9, b31, hb9, hw⟩ := hw
            refine aw_getR (pc := 31) C (ci := 7) (k := 6) ci7 (by decide) tw798 dX7_layNearest_31 rfl hp9 hb9 ?_
            refine aw_iconst (pc := 34) C dX7_layNearest_34 (i := (1 : Int)) (by decide) ?_
            obtain ⟨⟨k9, hp9⟩, hw⟩ := hw
            refine aw_iald (pc := 35) C dX7_layNearest_35 hp9 ?_
            refine aw_icmp_ge (pc := 36) (tgt := 87) C dX7_layNearest_36 (by decide) (fun hc9 => ?_) (fun hc9 => ?_)
            · have hw := hw.1 hc9
              obtain ⟨hp9, hw⟩ := hw
              refine aw_iincN (pc := 87) C dX7_layNearest_87 (k := 1) (by decide) rfl (by rw [hml]; decide) hp9 (fun x5_87 e9 => ?_)
              have hw := hw x5_87 e9
              refine aw_goto (pc := 90) (tgt := 14) C dX7_layNearest_90 (by decide) ?_
              obtain ⟨m9, hm9, hw⟩ := hw
              refine aw_sub [(0, vR a0), (1, vI a1), (3, vI x3_28), (4, vI x4_28), (5, vI x5_87)] ⟨rfl, rfl, rfl, rfl, rfl, trivial⟩ ?_
              exact ih_14 m9 hm9 _ _ _ _ hw
            · have hw := hw.2 hc9
              refine aw_aload_n (pc := 39) C dX7_layNearest_39 rfl rfl ?_
              refine aw_iload (pc := 40) C dX7_layNearest_40 rfl ?_
              refine aw_iload (pc := 42) C dX7_layNearest_42 rfl ?_
              refine aw_iload_n (pc := 44) C dX7_layNearest_44 rfl rfl ?_
              obtain ⟨hp9, hw⟩ := hw
              refine aw_callV (pc := 45) (as := [vI x5_14, vI x6_28, vI a1]) C ci7 (fun As hA => met_X7_canPair G l As a0 x5_14 x6_28 a1 _ _ hA hw) tw934 tw936 (tbp 44 (n := 21) (by decide +kernel)) tw10 tw937 ⟨rfl, rfl⟩ ⟨rfl, by decide, by decide, pd_X7_canPair⟩ ⟨Nat.le_of_ble_eq_true rfl, Nat.le_of_ble_eq_true rfl⟩ ⟨Nat.zero_le _, Nat.zero_le _⟩ (Nat.le_of_ble_eq_true rfl) dX7_layNearest_45 rfl hp9 (fun v9 h45 hq9 => ?_)
              obtain ⟨r45, rfl, hw⟩ := hq9
              obtain ⟨k_81, hk_81, hw⟩ := jn_out hw
              have J_81 : ∀ (x3_81 : Int) (x4_81 : Int) (h_81 : AH), k_81 x3_81 x4_81 h_81 → AW G p l e ({ frames := 3, cells := 0, slots := 0, locals := 71 } : Room) s m args below meth c 0 0 (MQ below (QG G (oV Q)) args s 0 0 (frA G)) 81 (eOf [(0, vR a0), (1, vI a1), (3, vI x3_81), (4, vI x4_81), (5, vI x5_14), (6, vI x6_28)]) [] h_81 := by
                intro x3_81 x4_81 h_81 hw
                rw [hk_81] at hw
                obtain ⟨hp9, hw⟩ := hw
                refine aw_iincN (pc := 81) C dX7_layNearest_81 (k := 1) (by decide) rfl (by rw [hml]; decide) hp9 (fun x6_81 e9 => ?_)
                have hw := hw x6_81 e9
                refine aw_goto (pc := 84) (tgt := 28) C dX7_layNearest_84 (by decide) ?_
                obtain ⟨m9, hm9, hw⟩ := hw
                refine aw_sub [(0, vR a0), (1, vI a1), (3, vI x3_81), (4, vI x4_81), (5, vI x5_14), (6, vI x6_81)] ⟨rfl, rfl, rfl, rfl, rfl, rfl, trivial⟩ ?_
                exact ih_28 m9 hm9 _ _ _ _ hw
              refine aw_if_eq (pc := 48) (tgt := 81) C dX7_layNearest_48 (by decide) (fun hc9 => ?_) (fun hc9 => ?_)
              · have hw := hw.1 hc9
                refine aw_sub [(0, vR a0), (1, vI a1), (3, vI x3_28), (4, vI x4_28), (5, vI x5_14), (6, vI x6_28)] ⟨rfl, rfl, rfl, rfl, rfl, rfl, trivial⟩ ?_
                exact J_81 _ _ _ hw
              · have hw := hw.2 hc9
                refine aw_iload_n (pc := 51) C dX7_layNearest_51 rfl rfl ?_
                refine aw_iconst (pc := 52) C dX7_layNearest_52 (i := (-1 : Int)) (by decide) ?_
                obtain ⟨k_74, hk_74, hw⟩ := jn_out hw
                have J_74 : ∀  (h_74 : AH), k_74  h_74 → AW G p l e ({ frames := 3, cells := 0, slots := 0, locals := 71 } : Room) s m args below meth c 0 0 (MQ below (QG G (oV Q)) args s 0 0 (frA G)) 74 (eOf [(0, vR a0), (1, vI a1), (5, vI x5_14), (6, vI x6_28)]) [] h_74 := by
                  intro  h_74 hw
                  rw [hk_74] at hw
                  refine aw_iload (pc := 74) C dX7_layNearest_74 rfl ?_
                  refine aw_istore_n (pc := 76) C dX7_layNearest_76 rfl (by rw [hml]; decide) ?_
                  refine aw_iload (pc := 77) C dX7_layNearest_77 rfl ?_
                  refine aw_istore (pc := 79) C dX7_layNearest_79 (by rw [hml]; decide) ?_
                  refine aw_sub [(0, vR a0), (1, vI a1), (3, vI x5_14), (4, vI x6_28), (5, vI x5_14), (6, vI x6_28)] ⟨rfl, rfl, rfl, rfl, rfl, rfl, trivial⟩ ?_
                  exact J_81 _ _ _ hw
                refine aw_icmp_eq (pc := 53) (tgt := 74) C dX7_layNearest_53 (by decide) (fun hc9 => ?_) (fun hc9 => ?_)
                · have hw := hw.1 hc9
                  refine aw_sub [(0, vR a0), (1, vI a1), (5, vI x5_14), (6, vI x6_28)] ⟨rfl, rfl, rfl, rfl, trivial⟩ ?_
                  exact J_74  _ hw
                · have hw := hw.2 hc9
                  refine aw_aload_n (pc := 56) C dX7_layNearest_56 rfl rfl ?_
                  refine aw_iload (pc := 57) C dX7_layNearest_57 rfl ?_
                  refine aw_iload (pc := 59) C dX7_layNearest_59 rfl ?_
                  obtain ⟨hp9, hw⟩ := hw
                  refine aw_callV (pc := 61) (as := [vI x5_14, vI x6_28]) C ci7 (fun As hA => met_X7_distance G l As a0 x5_14 x6_28 _ _ hA hw) tw938 tw940 (tbp 45 (n := 21) (by decide +kernel)) tw10 tw941 ⟨rfl, rfl⟩ ⟨rfl, by decide, by decide, pd_X7_distance⟩ ⟨Nat.le_of_ble_eq_true rfl, Nat.le_of_ble_eq_true rfl⟩ ⟨Nat.zero_le _, Nat.zero_le _⟩ (Nat.le_of_ble_eq_true rfl) dX7_layNearest_61 rfl hp9 (fun v9 h61 hq9 => ?_)
                  obtain ⟨r61, rfl, hw⟩ := hq9
                  refine aw_aload_n (pc := 64) C dX7_layNearest_64 rfl rfl ?_
                  refine aw_iload_n (pc := 65) C dX7_layNearest_65 rfl rfl ?_
                  refine aw_iload (pc := 66) C dX7_layNearest_66 rfl ?_
                  obtain ⟨hp9, hw⟩ := hw
                  refine aw_callV (pc := 68) (as := [vI x3_28, vI x4_28]) C ci7 (fun As hA => met_X7_distance G l As a0 x3_28 x4_28 _ _ hA hw) tw938 tw940 (tbp 45 (n := 21) (by decide +kernel)) tw10 tw941 ⟨rfl, rfl⟩ ⟨rfl, by decide, by decide, pd_X7_distance⟩ ⟨Nat.le_of_ble_eq_true rfl, Nat.le_of_ble_eq_true rfl⟩ ⟨Nat.zero_le _, Nat.zero_le _⟩ (Nat.le_of_ble_eq_true rfl) dX7_layNearest_68 rfl hp9 (fun v9 h68 hq9 => ?_)
                  obtain ⟨r68, rfl, hw⟩ := hq9
                  refine aw_icmp_ge (pc := 71) (tgt := 81) C dX7_layNearest_71 (by decide) (fun hc9 => ?_) (fun hc9 => ?_)
                  · have hw := hw.1 hc9
                    refine aw_sub [(0, vR a0), (1, vI a1), (3, vI x3_28), (4, vI x4_28), (5, vI x5_14), (6, vI x6_28)] ⟨rfl, rfl, rfl, rfl, rfl, rfl, trivial⟩ ?_
                    exact J_81 _ _ _ hw
                  · have hw := hw.2 hc9
                    refine aw_sub [(0, vR a0), (1, vI a1), (5, vI x5_14), (6, vI x6_28)] ⟨rfl, rfl, rfl, rfl, trivial⟩ ?_
                    exact J_74  _ hw
          refine aw_sub [(0, vR a0), (1, vI a1), (3, vI x3_14), (4, vI x4_14), (5, vI x5_14), (6, vI (0 : Int))] ⟨rfl, rfl, rfl, rfl, rfl, rfl, trivial⟩ ?_
          exact L_28 n9 _ _ _ _ hi9
      refine aw_sub [(0, vR a0), (1, vI a1), (3, vI (-1 : Int)), (4, vI (-1 : Int)), (5, vI (0 : Int))] ⟨rfl, rfl, rfl, rfl, rfl, trivial⟩ ?_
      exact L_14 n9 _ _ _ _ hi9
  refine aw_sub [(0, vR a0), (1, vI a1), (2, vI (1 : Int))] ⟨rfl, rfl, rfl, trivial⟩ ?_
  exact L_2 n9 _ _ hi9
theorem dX7_ofKind_0 : decode cX7_ofKind 0 = .ok (.iconst 0, 1) := by decide +kernel
theorem dX7_ofKind_1 : decode cX7_ofKind 1 = .ok (.istore_n 3, 1) := by decide +kernel
theorem dX7_ofKind_2 : decode cX7_ofKind 2 = .ok (.iconst 0, 1) := by decide +kernel
theorem dX7_ofKind_3 : decode cX7_ofKind 3 = .ok (.istore 4, 2) := by decide +kernel
theorem dX7_ofKind_5 : decode cX7_ofKind 5 = .ok (.iload 4, 2) := by decide +kernel
theorem dX7_ofKind_7 : decode cX7_ofKind 7 = .ok (.aload_n 0, 1) := by decide +kernel
theorem dX7_ofKind_8 : decode cX7_ofKind 8 = .ok (.getfield 19, 3) := by decide +kernel
theorem dX7_ofKind_11 : decode cX7_ofKind 11 = .ok (.iload_n 1, 1) := by decide +kernel
theorem dX7_ofKind_12 : decode cX7_ofKind 12 = .ok (.iaload, 1) := by decide +kernel
theorem dX7_ofKind_13 : decode cX7_ofKind 13 = .ok (.if_icmp .ge 33, 3) := by decide +kernel
theorem dX7_ofKind_16 : decode cX7_ofKind 16 = .ok (.iload_n 3, 1) := by decide +kernel
theorem dX7_ofKind_17 : decode cX7_ofKind 17 = .ok (.aload_n 0, 1) := by decide +kernel
theorem dX7_ofKind_18 : decode cX7_ofKind 18 = .ok (.getfield 31, 3) := by decide +kernel
theorem dX7_ofKind_21 : decode cX7_ofKind 21 = .ok (.bipush 40, 2) := by decide +kernel
theorem dX7_ofKind_23 : decode cX7_ofKind 23 = .ok (.iload_n 1, 1) := by decide +kernel
theorem dX7_ofKind_24 : decode cX7_ofKind 24 = .ok (.imul, 1) := by decide +kernel
theorem dX7_ofKind_25 : decode cX7_ofKind 25 = .ok (.iload 4, 2) := by decide +kernel
theorem dX7_ofKind_27 : decode cX7_ofKind 27 = .ok (.iadd, 1) := by decide +kernel
theorem dX7_ofKind_28 : decode cX7_ofKind 28 = .ok (.iaload, 1) := by decide +kernel
theorem dX7_ofKind_29 : decode cX7_ofKind 29 = .ok (.iload_n 2, 1) := by decide +kernel
theorem dX7_ofKind_30 : decode cX7_ofKind 30 = .ok (.if_icmp .ne 7, 3) := by decide +kernel
theorem dX7_ofKind_33 : decode cX7_ofKind 33 = .ok (.iconst 1, 1) := by decide +kernel
theorem dX7_ofKind_34 : decode cX7_ofKind 34 = .ok (.goto 4, 3) := by decide +kernel
theorem dX7_ofKind_37 : decode cX7_ofKind 37 = .ok (.iconst 0, 1) := by decide +kernel
theorem dX7_ofKind_38 : decode cX7_ofKind 38 = .ok (.iadd, 1) := by decide +kernel
theorem dX7_ofKind_39 : decode cX7_ofKind 39 = .ok (.istore_n 3, 1) := by decide +kernel
theorem dX7_ofKind_40 : decode cX7_ofKind 40 = .ok (.iinc 4 1, 3) := by decide +kernel
theorem dX7_ofKind_43 : decode cX7_ofKind 43 = .ok (.goto (-38), 3) := by decide +kernel
theorem dX7_ofKind_46 : decode cX7_ofKind 46 = .ok (.iload_n 3, 1) := by decide +kernel
theorem dX7_ofKind_47 : decode cX7_ofKind 47 = .ok (.ireturn, 1) := by decide +kernel
theorem pd_X7_ofKind : (parseMethodDescriptor yX7_ofKind.desc).map (fun d => d.parameters.length) = some 2 := by decide +kernel
def w_X7_ofKind (zz : Nat → Nat) (a0 : Nat) (a1 : Int) (a2 : Int) (h : AH) (Q : Int → AH → Prop) : Prop := ∃ I_5 : Nat → Int → Int → AH → Prop, (∃ n, I_5 n (0 : Int) (0 : Int) h) ∧ ∀ (n_5 : Nat) (x3_5 : Int) (x4_5 : Int) (h_5 : AH), I_5 n_5 x3_5 x4_5 h_5 → (okA h_5 a0 7 ∧ ∃ b8 : Nat, hfR h_5 a0 6 = some b8 ∧ okI h_5 b8 a1 ∧ (((haI h_5 b8 a1) ≤ x4_5) → Q x3_5 h_5) ∧ ((¬ ((haI h_5 b8 a1) ≤ x4_5)) → okA h_5 a0 7 ∧ ∃ b18 : Nat, hfR h_5 a0 10 = some b18 ∧ inR ((40 : Int) * a1) ∧ inR (((40 : Int) * a1) + x4_5) ∧ okI h_5 b18 (((40 : Int) * a1) + x4_5) ∧ jn (fun (t1_38 : Int) (h_38 : AH) => inR (x3_5 + t1_38) ∧ ∀ x3_39 : Int, x3_39 = (x3_5 + t1_38) → inR (x4_5 + 1) ∧ ∀ x4_40 : Int, x4_40 = (x4_5 + 1) → ∃ m, m < n_5 ∧ I_5 m x3_39 x4_40 h_38) (fun k_38 : Int → AH → Prop => ((¬ (haI h_5 b18 (((40 : Int) * a1) + x4_5)) = a2) → k_38 (0 : Int) h_5) ∧ (((haI h_5 b18 (((40 : Int) * a1) + x4_5)) = a2) → k_38 (1 : Int) h_5))))
set_option maxRecDepth 100000 in
set_option maxHeartbeats 4000000 in
theorem met_X7_ofKind (G : GG) (l : Launch) : ∀ (As : List Value) (a0 : Nat) (a1 : Int) (a2 : Int) (h : AH) (Q : Int → AH → Prop), As.map ab = List.map some ([vR a0, vI a1, vI a2] : List AV) → w_X7_ofKind G.2.2 a0 a1 a2 h Q → Met l yX7_ofKind (.code yX7_ofKind cX7_ofKind 5 (some .int) :: xTb) ({ frames := 0, cells := 0, slots := 0, locals := 0 } : Room) (PcA G As h) (QG G (oI Q)) 0 0 (frA G) := by
  intro As a0 a1 a2 h Q hA hw
  refine met_of hA (by decide) (Nat.le_of_ble_eq_true rfl) (fun p e s m args below meth c C hml hr hnm => ?_)
  unfold w_X7_ofKind at hw
  refine aw_iconst (pc := 0) C dX7_ofKind_0 (i := (0 : Int)) (by decide) ?_
  refine aw_istore_n (pc := 1) C dX7_ofKind_1 rfl (by rw [hml]; decide) ?_
  refine aw_iconst (pc := 2) C dX7_ofKind_2 (i := (0 : Int)) (by decide) ?_
  refine aw_istore (pc := 3) C dX7_ofKind_3 (by rw [hml]; decide) ?_
  obtain ⟨I_5, ⟨n9, hi9⟩, hst9⟩ := hw
  have L_5 : ∀ (n_5 : Nat) (x3_5 : Int) (x4_5 : Int) (h_5 : AH), I_5 n_5 x3_5 x4_5 h_5 → AW G p l e ({ frames := 0, cells := 0, slots := 0, locals := 0 } : Room) s m args below meth c 0 0 (MQ below (QG G (oI Q)) args s 0 0 (frA G)) 5 (eOf [(0, vR a0), (1, vI a1), (2, vI a2), (3, vI x3_5), (4, vI x4_5)]) [] h_5 := by
    intro n_5
    induction n_5 using Nat.strongRecOn with
    | _ n_5 ih_5 =>
    intro x3_5 x4_5 h_5 hi9
    have hw := hst9 n_5 x3_5 x4_5 h_5 hi9
    refine aw_iload (pc := 5) C dX7_ofKind_5 rfl ?_
    refine aw_aload_n (pc := 7) C dX7_ofKind_7 rfl rfl ?_
    obtain ⟨hp9, b8, hb9, hw⟩ := hw
    refine aw_getR (pc := 8) C (ci := 7) (k := 6) ci7 (by decide) tw798 dX7_ofKind_8 rfl hp9 hb9 ?_
    refine aw_iload_n (pc := 11) C dX7_ofKind_11 rfl rfl ?_
    obtain ⟨⟨k9, hp9⟩, hw⟩ := hw
    refine aw_iald (pc := 12) C dX7_ofKind_12 hp9 ?_
    refine aw_icmp_ge (pc := 13) (tgt := 46) C dX7_ofKind_13 (by decide) (fun hc9 => ?_) (fun hc9 => ?_)
    · have hw := hw.1 hc9
      refine aw_iload_n (pc := 46) C dX7_ofKind_46 rfl rfl ?_
      exact aw_iret (pc := 47) C hr dX7_ofKind_47 ⟨Nat.le_of_ble_eq_true rfl, Nat.le_of_ble_eq_true rfl⟩ ⟨_, rfl, hw⟩
    · have hw := hw.2 hc9
      refine aw_iload_n (pc := 16) C dX7_ofKind_16 rfl rfl ?_
      refine aw_aload_n (pc := 17) C dX7_ofKind_17 rfl rfl ?_
      obtain ⟨hp9, b18, hb9, hw⟩ := hw
      refine aw_getR (pc := 18) C (ci := 7) (k := 10) ci7 (by decide) tw802 dX7_ofKind_18 rfl hp9 hb9 ?_
      refine aw_bipush (pc := 21) C dX7_ofKind_21 (i := (40 : Int)) (by decide) ?_
      refine aw_iload_n (pc := 23) C dX7_ofKind_23 rfl rfl ?_
      obtain ⟨hp9, hw⟩ := hw
      refine aw_imul (pc := 24) C dX7_ofKind_24 hp9 ?_
      refine aw_iload (pc := 25) C dX7_ofKind_25 rfl ?_
      obtain ⟨hp9, hw⟩ := hw
      refine aw_iadd (pc := 27) C dX7_ofKind_27 hp9 ?_
      obtain ⟨⟨k9, hp9⟩, hw⟩ := hw
      refine aw_iald (pc := 28) C dX7_ofKind_28 hp9 ?_
      refine aw_iload_n (pc := 29) C dX7_ofKind_29 rfl rfl ?_
      obtain ⟨k_38, hk_38, hw⟩ := jn_out hw
      have J_38 : ∀ (t1_38 : Int) (h_38 : AH), k_38 t1_38 h_38 → AW G p l e ({ frames := 0, cells := 0, slots := 0, locals := 0 } : Room) s m args below meth c 0 0 (MQ below (QG G (oI Q)) args s 0 0 (frA G)) 38 (eOf [(0, vR a0), (1, vI a1), (2, vI a2), (4, vI x4_5)]) [vI t1_38, vI x3_5] h_38 := by
        intro t1_38 h_38 hw
        rw [hk_38] at hw
        obtain ⟨hp9, hw⟩ := hw
        refine aw_iadd (pc := 38) C dX7_ofKind_38 hp9 ?_
        refine aw_nmI (fun x3_39 e9 => ?_)
        have hw := hw x3_39 e9
        refine aw_istore_n (pc := 39) C dX7_ofKind_39 rfl (by rw [hml]; decide) ?_
        obtain ⟨hp9, hw⟩ := hw
        refine aw_iincN (pc := 40) C dX7_ofKind_40 (k := 1) (by decide) rfl (by rw [hml]; decide) hp9 (fun x4_40 e9 => ?_)
        have hw := hw x4_40 e9
        refine aw_goto (pc := 43) (tgt := 5) C dX7_ofKind_43 (by decide) ?_
        obtain ⟨m9, hm9, hw⟩ := hw
        refine aw_sub [(0, vR a0), (1, vI a1), (2, vI a2), (3, vI x3_39), (4, vI x4_40)] ⟨rfl, rfl, rfl, rfl, rfl, trivial⟩ ?_
        exact ih_5 m9 hm9 _ _ _ hw
      refine aw_icmp_ne (pc := 30) (tgt := 37) C dX7_ofKind_30 (by decide) (fun hc9 => ?_) (fun hc9 => ?_)
      · have hw := hw.1 hc9
        refine aw_iconst (pc := 37) C dX7_ofKind_37 (i := (0 : Int)) (by decide) ?_
        refine aw_sub [(0, vR a0), (1, vI a1), (2, vI a2), (4, vI x4_5)] ⟨rfl, rfl, rfl, rfl, trivial⟩ ?_
        exact J_38 _ _ hw
      · have hw := hw.2 hc9
        refine aw_iconst (pc := 33) C dX7_ofKind_33 (i := (1 : Int)) (by decide) ?_
        refine aw_goto (pc := 34) (tgt := 38) C dX7_ofKind_34 (by decide) ?_
        refine aw_sub [(0, vR a0), (1, vI a1), (2, vI a2), (4, vI x4_5)] ⟨rfl, rfl, rfl, rfl, trivial⟩ ?_
        exact J_38 _ _ hw
  refine aw_sub [(0, vR a0), (1, vI a1), (2, vI a2), (3, vI (0 : Int)), (4, vI (0 : Int))] ⟨rfl, rfl, rfl, rfl, rfl, trivial⟩ ?_
  exact L_5 n9 _ _ _ hi9
theorem dX7_goal_0 : decode cX7_goal 0 = .ok (.aload_n 0, 1) := by decide +kernel
theorem dX7_goal_1 : decode cX7_goal 1 = .ok (.getfield 22, 3) := by decide +kernel
theorem dX7_goal_4 : decode cX7_goal 4 = .ok (.bipush 40, 2) := by decide +kernel
theorem dX7_goal_6 : decode cX7_goal 6 = .ok (.aload_n 0, 1) := by decide +kernel
theorem dX7_goal_7 : decode cX7_goal 7 = .ok (.getfield 28, 3) := by decide +kernel
theorem dX7_goal_10 : decode cX7_goal 10 = .ok (.iload_n 1, 1) := by decide +kernel
theorem dX7_goal_11 : decode cX7_goal 11 = .ok (.iaload, 1) := by decide +kernel
theorem dX7_goal_12 : decode cX7_goal 12 = .ok (.iadd, 1) := by decide +kernel
theorem dX7_goal_13 : decode cX7_goal 13 = .ok (.iaload, 1) := by decide +kernel
theorem dX7_goal_14 : decode cX7_goal 14 = .ok (.ireturn, 1) := by decide +kernel
theorem pd_X7_goal : (parseMethodDescriptor yX7_goal.desc).map (fun d => d.parameters.length) = some 1 := by decide +kernel
def w_X7_goal (zz : Nat → Nat) (a0 : Nat) (a1 : Int) (h : AH) (Q : Int → AH → Prop) : Prop := okA h a0 7 ∧ ∃ b1 : Nat, hfR h a0 7 = some b1 ∧ okA h a0 7 ∧ ∃ b7 : Nat, hfR h a0 9 = some b7 ∧ okI h b7 a1 ∧ inR ((40 : Int) + (haI h b7 a1)) ∧ okI h b1 ((40 : Int) + (haI h b7 a1)) ∧ Q (haI h b1 ((40 : Int) + (haI h b7 a1))) h
set_option maxRecDepth 100000 in
set_option maxHeartbeats 4000000 in
theorem met_X7_goal (G : GG) (l : Launch) : ∀ (As : List Value) (a0 : Nat) (a1 : Int) (h : AH) (Q : Int → AH → Prop), As.map ab = List.map some ([vR a0, vI a1] : List AV) → w_X7_goal G.2.2 a0 a1 h Q → Met l yX7_goal (.code yX7_goal cX7_goal 2 (some .int) :: xTb) ({ frames := 0, cells := 0, slots := 0, locals := 0 } : Room) (PcA G As h) (QG G (oI Q)) 0 0 (frA G) := by
  intro As a0 a1 h Q hA hw
  refine met_of hA (by decide) (Nat.le_of_ble_eq_true rfl) (fun p e s m args below meth c C hml hr hnm => ?_)
  unfold w_X7_goal at hw
  refine aw_aload_n (pc := 0) C dX7_goal_0 rfl rfl ?_
  obtain ⟨hp9, b1, hb9, hw⟩ := hw
  refine aw_getR (pc := 1) C (ci := 7) (k := 7) ci7 (by decide) tw799 dX7_goal_1 rfl hp9 hb9 ?_
  refine aw_bipush (pc := 4) C dX7_goal_4 (i := (40 : Int)) (by decide) ?_
  refine aw_aload_n (pc := 6) C dX7_goal_6 rfl rfl ?_
  obtain ⟨hp9, b7, hb9, hw⟩ := hw
  refine aw_getR (pc := 7) C (ci := 7) (k := 9) ci7 (by decide) tw801 dX7_goal_7 rfl hp9 hb9 ?_
  refine aw_iload_n (pc := 10) C dX7_goal_10 rfl rfl ?_
  obtain ⟨⟨k9, hp9⟩, hw⟩ := hw
  refine aw_iald (pc := 11) C dX7_goal_11 hp9 ?_
  obtain ⟨hp9, hw⟩ := hw
  refine aw_iadd (pc := 12) C dX7_goal_12 hp9 ?_
  obtain ⟨⟨k9, hp9⟩, hw⟩ := hw
  refine aw_iald (pc := 13) C dX7_goal_13 hp9 ?_
  exact aw_iret (pc := 14) C hr dX7_goal_14 ⟨Nat.le_of_ble_eq_true rfl, Nat.le_of_ble_eq_true rfl⟩ ⟨_, rfl, hw⟩
theorem dX7_isGoing_0 : decode cX7_isGoing 0 = .ok (.aload_n 0, 1) := by decide +kernel
theorem dX7_isGoing_1 : decode cX7_isGoing 1 = .ok (.getfield 28, 3) := by decide +kernel
theorem dX7_isGoing_4 : decode cX7_isGoing 4 = .ok (.iload_n 1, 1) := by decide +kernel
theorem dX7_isGoing_5 : decode cX7_isGoing 5 = .ok (.iaload, 1) := by decide +kernel
theorem dX7_isGoing_6 : decode cX7_isGoing 6 = .ok (.iconst (-1), 1) := by decide +kernel
theorem dX7_isGoing_7 : decode cX7_isGoing 7 = .ok (.if_icmp .eq 21, 3) := by decide +kernel
theorem dX7_isGoing_10 : decode cX7_isGoing 10 = .ok (.aload_n 0, 1) := by decide +kernel
theorem dX7_isGoing_11 : decode cX7_isGoing 11 = .ok (.getfield 49, 3) := by decide +kernel
theorem dX7_isGoing_14 : decode cX7_isGoing 14 = .ok (.iload_n 1, 1) := by decide +kernel
theorem dX7_isGoing_15 : decode cX7_isGoing 15 = .ok (.iaload, 1) := by decide +kernel
theorem dX7_isGoing_16 : decode cX7_isGoing 16 = .ok (.aload_n 0, 1) := by decide +kernel
theorem dX7_isGoing_17 : decode cX7_isGoing 17 = .ok (.iload_n 1, 1) := by decide +kernel
theorem dX7_isGoing_18 : decode cX7_isGoing 18 = .ok (.invokevirtual 91, 3) := by decide +kernel
theorem dX7_isGoing_21 : decode cX7_isGoing 21 = .ok (.if_icmp .eq 7, 3) := by decide +kernel
theorem dX7_isGoing_24 : decode cX7_isGoing 24 = .ok (.iconst 1, 1) := by decide +kernel
theorem dX7_isGoing_25 : decode cX7_isGoing 25 = .ok (.goto 4, 3) := by decide +kernel
theorem dX7_isGoing_28 : decode cX7_isGoing 28 = .ok (.iconst 0, 1) := by decide +kernel
theorem dX7_isGoing_29 : decode cX7_isGoing 29 = .ok (.ireturn, 1) := by decide +kernel
theorem pd_X7_isGoing : (parseMethodDescriptor yX7_isGoing.desc).map (fun d => d.parameters.length) = some 1 := by decide +kernel
def w_X7_isGoing (zz : Nat → Nat) (a0 : Nat) (a1 : Int) (h : AH) (Q : Int → AH → Prop) : Prop := okA h a0 7 ∧ ∃ b1 : Nat, hfR h a0 9 = some b1 ∧ okI h b1 a1 ∧ jn (fun (t0_29 : Int) (h_29 : AH) => (t0_29 = 0 ∨ t0_29 = 1) ∧ Q t0_29 h_29) (fun k_29 : Int → AH → Prop => jn (fun  (h_28 : AH) => k_29 (0 : Int) h_28) (fun k_28 : AH → Prop => (((haI h b1 a1) = (-1 : Int)) → k_28  h) ∧ ((¬ ((haI h b1 a1) = (-1 : Int))) → okA h a0 7 ∧ ∃ b11 : Nat, hfR h a0 17 = some b11 ∧ okI h b11 a1 ∧ okA h a0 7 ∧ w_X7_goal zz a0 a1 h (fun (r18 : Int) (h18 : AH) => (((haI h b11 a1) = r18) → k_28  h18) ∧ ((¬ ((haI h b11 a1) = r18)) → k_29 (1 : Int) h18)))))
set_option maxRecDepth 100000 in
set_option maxHeartbeats 4000000 in
theorem met_X7_isGoing (G : GG) (l : Launch) : ∀ (As : List Value) (a0 : Nat) (a1 : Int) (h : AH) (Q : Int → AH → Prop), As.map ab = List.map some ([vR a0, vI a1] : List AV) → w_X7_isGoing G.2.2 a0 a1 h Q → Met l yX7_isGoing (.code yX7_isGoing cX7_isGoing 2 (some .boolean) :: xTb) ({ frames := 1, cells := 0, slots := 0, locals := 21 } : Room) (PcA G As h) (QG G (oI Q)) 0 0 (frA G) := by
  intro As a0 a1 h Q hA hw
  refine met_of hA (by decide) (Nat.le_of_ble_eq_true rfl) (fun p e s m args below meth c C hml hr hnm => ?_)
  unfold w_X7_isGoing at hw
  refine aw_aload_n (pc := 0) C dX7_isGoing_0 rfl rfl ?_
  obtain ⟨hp9, b1, hb9, hw⟩ := hw
  refine aw_getR (pc := 1) C (ci := 7) (k := 9) ci7 (by decide) tw801 dX7_isGoing_1 rfl hp9 hb9 ?_
  refine aw_iload_n (pc := 4) C dX7_isGoing_4 rfl rfl ?_
  obtain ⟨⟨k9, hp9⟩, hw⟩ := hw
  refine aw_iald (pc := 5) C dX7_isGoing_5 hp9 ?_
  refine aw_iconst (pc := 6) C dX7_isGoing_6 (i := (-1 : Int)) (by decide) ?_
  obtain ⟨k_29, hk_29, hw⟩ := jn_out hw
  have J_29 : ∀ (t0_29 : Int) (h_29 : AH), k_29 t0_29 h_29 → AW G p l e ({ frames := 1, cells := 0, slots := 0, locals := 21 } : Room) s m args below meth c 0 0 (MQ below (QG G (oI Q)) args s 0 0 (frA G)) 29 (eOf []) [vI t0_29] h_29 := by
    intro t0_29 h_29 hw
    rw [hk_29] at hw
    obtain ⟨hp9, hw⟩ := hw
    exact aw_zret (pc := 29) C hr dX7_isGoing_29 ⟨Nat.le_of_ble_eq_true rfl, Nat.le_of_ble_eq_true rfl⟩ hp9 ⟨_, rfl, hw⟩
  obtain ⟨k_28, hk_28, hw⟩ := jn_out hw
  have J_28 : ∀  (h_28 : AH), k_28  h_28 → AW G p l e ({ frames := 1, cells := 0, slots := 0, locals := 21 } : Room) s m args below meth c 0 0 (MQ below (QG G (oI Q)) args s 0 0 (frA G)) 28 (eOf []) [] h_28 := by
    intro  h_28 hw
    rw [hk_28] at hw
    refine aw_iconst (pc := 28) C dX7_isGoing_28 (i := (0 : Int)) (by decide) ?_
    refine aw_sub [] trivial ?_
    exact J_29 _ _ hw
  refine aw_icmp_eq (pc := 7) (tgt := 28) C dX7_isGoing_7 (by decide) (fun hc9 => ?_) (fun hc9 => ?_)
  · have hw := hw.1 hc9
    refine aw_sub [] trivial ?_
    exact J_28  _ hw
  · have hw := hw.2 hc9
    refine aw_aload_n (pc := 10) C dX7_isGoing_10 rfl rfl ?_
    obtain ⟨hp9, b11, hb9, hw⟩ := hw
    refine aw_getR (pc := 11) C (ci := 7) (k := 17) ci7 (by decide) tw809 dX7_isGoing_11 rfl hp9 hb9 ?_
    refine aw_iload_n (pc := 14) C dX7_isGoing_14 rfl rfl ?_
    obtain ⟨⟨k9, hp9⟩, hw⟩ := hw
    refine aw_iald (pc := 15) C dX7_isGoing_15 hp9 ?_
    refine aw_aload_n (pc := 16) C dX7_isGoing_16 rfl rfl ?_
    refine aw_iload_n (pc := 17) C dX7_isGoing_17 rfl rfl ?_
    obtain ⟨hp9, hw⟩ := hw
    refine aw_callV (pc := 18) (as := [vI a1]) C ci7 (fun As hA => met_X7_goal G l As a0 a1 _ _ hA hw) tw965 tw967 (tbp 51 (n := 21) (by decide +kernel)) tw10 tw968 ⟨rfl, rfl⟩ ⟨rfl, by decide, by decide, pd_X7_goal⟩ ⟨Nat.le_of_ble_eq_true rfl, Nat.le_of_ble_eq_true rfl⟩ ⟨Nat.zero_le _, Nat.zero_le _⟩ (Nat.le_of_ble_eq_true rfl) dX7_isGoing_18 rfl hp9 (fun v9 h18 hq9 => ?_)
    obtain ⟨r18, rfl, hw⟩ := hq9
    refine aw_icmp_eq (pc := 21) (tgt := 28) C dX7_isGoing_21 (by decide) (fun hc9 => ?_) (fun hc9 => ?_)
    · have hw := hw.1 hc9
      refine aw_sub [] trivial ?_
      exact J_28  _ hw
    · have hw := hw.2 hc9
      refine aw_iconst (pc := 24) C dX7_isGoing_24 (i := (1 : Int)) (by decide) ?_
      refine aw_goto (pc := 25) (tgt := 29) C dX7_isGoing_25 (by decide) ?_
      refine aw_sub [] trivial ?_
      exact J_29 _ _ hw
theorem dX7_anyGoes_0 : decode cX7_anyGoes 0 = .ok (.iconst 0, 1) := by decide +kernel
theorem dX7_anyGoes_1 : decode cX7_anyGoes 1 = .ok (.istore_n 1, 1) := by decide +kernel
theorem dX7_anyGoes_2 : decode cX7_anyGoes 2 = .ok (.iconst 0, 1) := by decide +kernel
theorem dX7_anyGoes_3 : decode cX7_anyGoes 3 = .ok (.istore_n 2, 1) := by decide +kernel
theorem dX7_anyGoes_4 : decode cX7_anyGoes 4 = .ok (.iload_n 2, 1) := by decide +kernel
theorem dX7_anyGoes_5 : decode cX7_anyGoes 5 = .ok (.aload_n 0, 1) := by decide +kernel
theorem dX7_anyGoes_6 : decode cX7_anyGoes 6 = .ok (.getfield 19, 3) := by decide +kernel
theorem dX7_anyGoes_9 : decode cX7_anyGoes 9 = .ok (.iconst 0, 1) := by decide +kernel
theorem dX7_anyGoes_10 : decode cX7_anyGoes 10 = .ok (.iaload, 1) := by decide +kernel
theorem dX7_anyGoes_11 : decode cX7_anyGoes 11 = .ok (.if_icmp .ge 27, 3) := by decide +kernel
theorem dX7_anyGoes_14 : decode cX7_anyGoes 14 = .ok (.iload_n 1, 1) := by decide +kernel
theorem dX7_anyGoes_15 : decode cX7_anyGoes 15 = .ok (.ifCond .ne 11, 3) := by decide +kernel
theorem dX7_anyGoes_18 : decode cX7_anyGoes 18 = .ok (.aload_n 0, 1) := by decide +kernel
theorem dX7_anyGoes_19 : decode cX7_anyGoes 19 = .ok (.iload_n 2, 1) := by decide +kernel
theorem dX7_anyGoes_20 : decode cX7_anyGoes 20 = .ok (.invokevirtual 94, 3) := by decide +kernel
theorem dX7_anyGoes_23 : decode cX7_anyGoes 23 = .ok (.ifCond .eq 7, 3) := by decide +kernel
theorem dX7_anyGoes_26 : decode cX7_anyGoes 26 = .ok (.iconst 1, 1) := by decide +kernel
theorem dX7_anyGoes_27 : decode cX7_anyGoes 27 = .ok (.goto 4, 3) := by decide +kernel
theorem dX7_anyGoes_30 : decode cX7_anyGoes 30 = .ok (.iconst 0, 1) := by decide +kernel
theorem dX7_anyGoes_31 : decode cX7_anyGoes 31 = .ok (.istore_n 1, 1) := by decide +kernel
theorem dX7_anyGoes_32 : decode cX7_anyGoes 32 = .ok (.iinc 2 1, 3) := by decide +kernel
theorem dX7_anyGoes_35 : decode cX7_anyGoes 35 = .ok (.goto (-31), 3) := by decide +kernel
theorem dX7_anyGoes_38 : decode cX7_anyGoes 38 = .ok (.iload_n 1, 1) := by decide +kernel
theorem dX7_anyGoes_39 : decode cX7_anyGoes 39 = .ok (.ireturn, 1) := by decide +kernel
theorem pd_X7_anyGoes : (parseMethodDescriptor yX7_anyGoes.desc).map (fun d => d.parameters.length) = some 0 := by decide +kernel
def w_X7_anyGoes (zz : Nat → Nat) (a0 : Nat) (h : AH) (Q : Int → AH → Prop) : Prop := ∃ I_4 : Nat → Int → Int → AH → Prop, (∃ n, I_4 n (0 : Int) (0 : Int) h) ∧ ∀ (n_4 : Nat) (x1_4 : Int) (x2_4 : Int) (h_4 : AH), I_4 n_4 x1_4 x2_4 h_4 → (okA h_4 a0 7 ∧ ∃ b6 : Nat, hfR h_4 a0 6 = some b6 ∧ okI h_4 b6 (0 : Int) ∧ (((haI h_4 b6 (0 : Int)) ≤ x2_4) → (x1_4 = 0 ∨ x1_4 = 1) ∧ Q x1_4 h_4) ∧ ((¬ ((haI h_4 b6 (0 : Int)) ≤ x2_4)) → jn (fun (t0_31 : Int) (h_31 : AH) => inR (x2_4 + 1) ∧ ∀ x2_32 : Int, x2_32 = (x2_4 + 1) → ∃ m, m < n_4 ∧ I_4 m t0_31 x2_32 h_31) (fun k_31 : Int → AH → Prop => jn (fun  (h_26 : AH) => k_31 (1 : Int) h_26) (fun k_26 : AH → Prop => ((¬ x1_4 = 0) → k_26  h_4) ∧ ((x1_4 = 0) → okA h_4 a0 7 ∧ w_X7_isGoing zz a0 x2_4 h_4 (fun (r20 : Int) (h20 : AH) => ((r20 = 0) → k_31 (0 : Int) h20) ∧ ((¬ (r20 = 0)) → k_26  h20)))))))
set_option maxRecDepth 100000 in
set_option maxHeartbeats 4000000 in
theorem met_X7_anyGoes (G : GG) (l : Launch) : ∀ (As : List Value) (a0 : Nat) (h : AH) (Q : Int → AH → Prop), As.map ab = List.map some ([vR a0] : List AV) → w_X7_anyGoes G.2.2 a0 h Q → Met l yX7_anyGoes (.code yX7_anyGoes cX7_anyGoes 3 (some .boolean) :: xTb) ({ frames := 2, cells := 0, slots := 0, locals := 42 } : Room) (PcA G As h) (QG G (oI Q)) 0 0 (frA G) := by
  intro As a0 h Q hA hw
  refine met_of hA (by decide) (Nat.le_of_ble_eq_true rfl) (fun p e s m args below meth c C hml hr hnm => ?_)
  unfold w_X7_anyGoes at hw
  refine aw_iconst (pc := 0) C dX7_anyGoes_0 (i := (0 : Int)) (by decide) ?_
  refine aw_istore_n (pc := 1) C dX7_anyGoes_1 rfl (by rw [hml]; decide) ?_
  refine aw_iconst (pc := 2) C dX7_anyGoes_2 (i := (0 : Int)) (by decide) ?_
  refine aw_istore_n (pc := 3) C dX7_anyGoes_3 rfl (by rw [hml]; decide) ?_
  obtain ⟨I_4, ⟨n9, hi9⟩, hst9⟩ := hw
  have L_4 : ∀ (n_4 : Nat) (x1_4 : Int) (x2_4 : Int) (h_4 : AH), I_4 n_4 x1_4 x2_4 h_4 → AW G p l e ({ frames := 2, cells := 0, slots := 0, locals := 42 } : Room) s m args below meth c 0 0 (MQ below (QG G (oI Q)) args s 0 0 (frA G)) 4 (eOf [(0, vR a0), (1, vI x1_4), (2, vI x2_4)]) [] h_4 := by
    intro n_4
    induction n_4 using Nat.strongRecOn with
    | _ n_4 ih_4 =>
    intro x1_4 x2_4 h_4 hi9
    have hw := hst9 n_4 x1_4 x2_4 h_4 hi9
    refine aw_iload_n (pc := 4) C dX7_anyGoes_4 rfl rfl ?_
    refine aw_aload_n (pc := 5) C dX7_anyGoes_5 rfl rfl ?_
    obtain ⟨hp9, b6, hb9, hw⟩ := hw
    refine aw_getR (pc := 6) C (ci := 7) (k := 6) ci7 (by decide) tw798 dX7_anyGoes_6 rfl hp9 hb9 ?_
    refine aw_iconst (pc := 9) C dX7_anyGoes_9 (i := (0 : Int)) (by decide) ?_
    obtain ⟨⟨k9, hp9⟩, hw⟩ := hw
    refine aw_iald (pc := 10) C dX7_anyGoes_10 hp9 ?_
    refine aw_icmp_ge (pc := 11) (tgt := 38) C dX7_anyGoes_11 (by decide) (fun hc9 => ?_) (fun hc9 => ?_)
    · have hw := hw.1 hc9
      refine aw_iload_n (pc := 38) C dX7_anyGoes_38 rfl rfl ?_
      obtain ⟨hp9, hw⟩ := hw
      exact aw_zret (pc := 39) C hr dX7_anyGoes_39 ⟨Nat.le_of_ble_eq_true rfl, Nat.le_of_ble_eq_true rfl⟩ hp9 ⟨_, rfl, hw⟩
    · have hw := hw.2 hc9
      refine aw_iload_n (pc := 14) C dX7_anyGoes_14 rfl rfl ?_
      obtain ⟨k_31, hk_31, hw⟩ := jn_out hw
      have J_31 : ∀ (t0_31 : Int) (h_31 : AH), k_31 t0_31 h_31 → AW G p l e ({ frames := 2, cells := 0, slots := 0, locals := 42 } : Room) s m args below meth c 0 0 (MQ below (QG G (oI Q)) args s 0 0 (frA G)) 31 (eOf [(0, vR a0), (2, vI x2_4)]) [vI t0_31] h_31 := by
        intro t0_31 h_31 hw
        rw [hk_31] at hw
        refine aw_istore_n (pc := 31) C dX7_anyGoes_31 rfl (by rw [hml]; decide) ?_
        obtain ⟨hp9, hw⟩ := hw
        refine aw_iincN (pc := 32) C dX7_anyGoes_32 (k := 1) (by decide) rfl (by rw [hml]; decide) hp9 (fun x2_32 e9 => ?_)
        have hw := hw x2_32 e9
        refine aw_goto (pc := 35) (tgt := 4) C dX7_anyGoes_35 (by decide) ?_
        obtain ⟨m9, hm9, hw⟩ := hw
        refine aw_sub [(0, vR a0), (1, vI t0_31), (2, vI x2_32)] ⟨rfl, rfl, rfl, trivial⟩ ?_
        exact ih_4 m9 hm9 _ _ _ hw
      obtain ⟨k_26, hk_26, hw⟩ := jn_out hw
      have J_26 : ∀  (h_26 : AH), k_26  h_26 → AW G p l e ({ frames := 2, cells := 0, slots := 0, locals := 42 } : Room) s m args below meth c 0 0 (MQ below (QG G (oI Q)) args s 0 0 (frA G)) 26 (eOf [(0, vR a0), (2, vI x2_4)]) [] h_26 := by
        intro  h_26 hw
        rw [hk_26] at hw
        refine aw_iconst (pc := 26) C dX7_anyGoes_26 (i := (1 : Int)) (by decide) ?_
        refine aw_goto (pc := 27) (tgt := 31) C dX7_anyGoes_27 (by decide) ?_
        refine aw_sub [(0, vR a0), (2, vI x2_4)] ⟨rfl, rfl, trivial⟩ ?_
        exact J_31 _ _ hw
      refine aw_if_ne (pc := 15) (tgt := 26) C dX7_anyGoes_15 (by decide) (fun hc9 => ?_) (fun hc9 => ?_)
      · have hw := hw.1 hc9
        refine aw_sub [(0, vR a0), (2, vI x2_4)] ⟨rfl, rfl, trivial⟩ ?_
        exact J_26  _ hw
      · have hw := hw.2 hc9
        refine aw_aload_n (pc := 18) C dX7_anyGoes_18 rfl rfl ?_
        refine aw_iload_n (pc := 19) C dX7_anyGoes_19 rfl rfl ?_
        obtain ⟨hp9, hw⟩ := hw
        refine aw_callV (pc := 20) (as := [vI x2_4]) C ci7 (fun As hA => met_X7_isGoing G l As a0 x2_4 _ _ hA hw) tw961 tw963 (tbp 50 (n := 21) (by decide +kernel)) tw10 tw964 ⟨rfl, rfl⟩ ⟨rfl, by decide, by decide, pd_X7_isGoing⟩ ⟨Nat.le_of_ble_eq_true rfl, Nat.le_of_ble_eq_true rfl⟩ ⟨Nat.zero_le _, Nat.zero_le _⟩ (Nat.le_of_ble_eq_true rfl) dX7_anyGoes_20 rfl hp9 (fun v9 h20 hq9 => ?_)
        obtain ⟨r20, rfl, hw⟩ := hq9
        refine aw_if_eq (pc := 23) (tgt := 30) C dX7_anyGoes_23 (by decide) (fun hc9 => ?_) (fun hc9 => ?_)
        · have hw := hw.1 hc9
          refine aw_iconst (pc := 30) C dX7_anyGoes_30 (i := (0 : Int)) (by decide) ?_
          refine aw_sub [(0, vR a0), (2, vI x2_4)] ⟨rfl, rfl, trivial⟩ ?_
          exact J_31 _ _ hw
        · have hw := hw.2 hc9
          refine aw_sub [(0, vR a0), (2, vI x2_4)] ⟨rfl, rfl, trivial⟩ ?_
          exact J_26  _ hw
  refine aw_sub [(0, vR a0), (1, vI (0 : Int)), (2, vI (0 : Int))] ⟨rfl, rfl, rfl, trivial⟩ ?_
  exact L_4 n9 _ _ _ hi9
theorem dX7_nextOf_0 : decode cX7_nextOf 0 = .ok (.aload_n 0, 1) := by decide +kernel
theorem dX7_nextOf_1 : decode cX7_nextOf 1 = .ok (.iload_n 1, 1) := by decide +kernel
theorem dX7_nextOf_2 : decode cX7_nextOf 2 = .ok (.invokevirtual 91, 3) := by decide +kernel
theorem dX7_nextOf_5 : decode cX7_nextOf 5 = .ok (.bipush 16, 2) := by decide +kernel
theorem dX7_nextOf_7 : decode cX7_nextOf 7 = .ok (.irem, 1) := by decide +kernel
theorem dX7_nextOf_8 : decode cX7_nextOf 8 = .ok (.aload_n 0, 1) := by decide +kernel
theorem dX7_nextOf_9 : decode cX7_nextOf 9 = .ok (.getfield 49, 3) := by decide +kernel
theorem dX7_nextOf_12 : decode cX7_nextOf 12 = .ok (.iload_n 1, 1) := by decide +kernel
theorem dX7_nextOf_13 : decode cX7_nextOf 13 = .ok (.iaload, 1) := by decide +kernel
theorem dX7_nextOf_14 : decode cX7_nextOf 14 = .ok (.bipush 16, 2) := by decide +kernel
theorem dX7_nextOf_16 : decode cX7_nextOf 16 = .ok (.irem, 1) := by decide +kernel
theorem dX7_nextOf_17 : decode cX7_nextOf 17 = .ok (.isub, 1) := by decide +kernel
theorem dX7_nextOf_18 : decode cX7_nextOf 18 = .ok (.istore_n 2, 1) := by decide +kernel
theorem dX7_nextOf_19 : decode cX7_nextOf 19 = .ok (.aload_n 0, 1) := by decide +kernel
theorem dX7_nextOf_20 : decode cX7_nextOf 20 = .ok (.iload_n 1, 1) := by decide +kernel
theorem dX7_nextOf_21 : decode cX7_nextOf 21 = .ok (.invokevirtual 91, 3) := by decide +kernel
theorem dX7_nextOf_24 : decode cX7_nextOf 24 = .ok (.bipush 16, 2) := by decide +kernel
theorem dX7_nextOf_26 : decode cX7_nextOf 26 = .ok (.idiv, 1) := by decide +kernel
theorem dX7_nextOf_27 : decode cX7_nextOf 27 = .ok (.aload_n 0, 1) := by decide +kernel
theorem dX7_nextOf_28 : decode cX7_nextOf 28 = .ok (.getfield 49, 3) := by decide +kernel
theorem dX7_nextOf_31 : decode cX7_nextOf 31 = .ok (.iload_n 1, 1) := by decide +kernel
theorem dX7_nextOf_32 : decode cX7_nextOf 32 = .ok (.iaload, 1) := by decide +kernel
theorem dX7_nextOf_33 : decode cX7_nextOf 33 = .ok (.bipush 16, 2) := by decide +kernel
theorem dX7_nextOf_35 : decode cX7_nextOf 35 = .ok (.idiv, 1) := by decide +kernel
theorem dX7_nextOf_36 : decode cX7_nextOf 36 = .ok (.isub, 1) := by decide +kernel
theorem dX7_nextOf_37 : decode cX7_nextOf 37 = .ok (.istore_n 3, 1) := by decide +kernel
theorem dX7_nextOf_38 : decode cX7_nextOf 38 = .ok (.aload_n 0, 1) := by decide +kernel
theorem dX7_nextOf_39 : decode cX7_nextOf 39 = .ok (.iconst 4, 1) := by decide +kernel
theorem dX7_nextOf_40 : decode cX7_nextOf 40 = .ok (.invokevirtual 73, 3) := by decide +kernel
theorem dX7_nextOf_43 : decode cX7_nextOf 43 = .ok (.istore 4, 2) := by decide +kernel
theorem dX7_nextOf_45 : decode cX7_nextOf 45 = .ok (.iload 4, 2) := by decide +kernel
theorem dX7_nextOf_47 : decode cX7_nextOf 47 = .ok (.ifCond .ne 15, 3) := by decide +kernel
theorem dX7_nextOf_50 : decode cX7_nextOf 50 = .ok (.iload_n 2, 1) := by decide +kernel
theorem dX7_nextOf_51 : decode cX7_nextOf 51 = .ok (.ifCond .eq 7, 3) := by decide +kernel
theorem dX7_nextOf_54 : decode cX7_nextOf 54 = .ok (.iconst 1, 1) := by decide +kernel
theorem dX7_nextOf_55 : decode cX7_nextOf 55 = .ok (.goto 41, 3) := by decide +kernel
theorem dX7_nextOf_58 : decode cX7_nextOf 58 = .ok (.iconst 0, 1) := by decide +kernel
theorem dX7_nextOf_59 : decode cX7_nextOf 59 = .ok (.goto 37, 3) := by decide +kernel
theorem dX7_nextOf_62 : decode cX7_nextOf 62 = .ok (.iload 4, 2) := by decide +kernel
theorem dX7_nextOf_64 : decode cX7_nextOf 64 = .ok (.iconst 1, 1) := by decide +kernel
theorem dX7_nextOf_65 : decode cX7_nextOf 65 = .ok (.if_icmp .ne 15, 3) := by decide +kernel
theorem dX7_nextOf_68 : decode cX7_nextOf 68 = .ok (.iload_n 3, 1) := by decide +kernel
theorem dX7_nextOf_69 : decode cX7_nextOf 69 = .ok (.ifCond .ne 7, 3) := by decide +kernel
theorem dX7_nextOf_72 : decode cX7_nextOf 72 = .ok (.iconst 1, 1) := by decide +kernel
theorem dX7_nextOf_73 : decode cX7_nextOf 73 = .ok (.goto 23, 3) := by decide +kernel
theorem dX7_nextOf_76 : decode cX7_nextOf 76 = .ok (.iconst 0, 1) := by decide +kernel
theorem dX7_nextOf_77 : decode cX7_nextOf 77 = .ok (.goto 19, 3) := by decide +kernel
theorem dX7_nextOf_80 : decode cX7_nextOf 80 = .ok (.iload_n 2, 1) := by decide +kernel
theorem dX7_nextOf_81 : decode cX7_nextOf 81 = .ok (.invokestatic 69, 3) := by decide +kernel
theorem dX7_nextOf_84 : decode cX7_nextOf 84 = .ok (.iload_n 3, 1) := by decide +kernel
theorem dX7_nextOf_85 : decode cX7_nextOf 85 = .ok (.invokestatic 69, 3) := by decide +kernel
theorem dX7_nextOf_88 : decode cX7_nextOf 88 = .ok (.if_icmp .lt 7, 3) := by decide +kernel
theorem dX7_nextOf_91 : decode cX7_nextOf 91 = .ok (.iconst 1, 1) := by decide +kernel
theorem dX7_nextOf_92 : decode cX7_nextOf 92 = .ok (.goto 4, 3) := by decide +kernel
theorem dX7_nextOf_95 : decode cX7_nextOf 95 = .ok (.iconst 0, 1) := by decide +kernel
theorem dX7_nextOf_96 : decode cX7_nextOf 96 = .ok (.istore 5, 2) := by decide +kernel
theorem dX7_nextOf_98 : decode cX7_nextOf 98 = .ok (.iload 5, 2) := by decide +kernel
theorem dX7_nextOf_100 : decode cX7_nextOf 100 = .ok (.ifCond .eq 22, 3) := by decide +kernel
theorem dX7_nextOf_103 : decode cX7_nextOf 103 = .ok (.aload_n 0, 1) := by decide +kernel
theorem dX7_nextOf_104 : decode cX7_nextOf 104 = .ok (.getfield 49, 3) := by decide +kernel
theorem dX7_nextOf_107 : decode cX7_nextOf 107 = .ok (.iload_n 1, 1) := by decide +kernel
theorem dX7_nextOf_108 : decode cX7_nextOf 108 = .ok (.iaload, 1) := by decide +kernel
theorem dX7_nextOf_109 : decode cX7_nextOf 109 = .ok (.iload_n 2, 1) := by decide +kernel
theorem dX7_nextOf_110 : decode cX7_nextOf 110 = .ok (.ifCond .le 7, 3) := by decide +kernel
theorem dX7_nextOf_113 : decode cX7_nextOf 113 = .ok (.iconst 1, 1) := by decide +kernel
theorem dX7_nextOf_114 : decode cX7_nextOf 114 = .ok (.goto 4, 3) := by decide +kernel
theorem dX7_nextOf_117 : decode cX7_nextOf 117 = .ok (.iconst (-1), 1) := by decide +kernel
theorem dX7_nextOf_118 : decode cX7_nextOf 118 = .ok (.iadd, 1) := by decide +kernel
theorem dX7_nextOf_119 : decode cX7_nextOf 119 = .ok (.goto 21, 3) := by decide +kernel
theorem dX7_nextOf_122 : decode cX7_nextOf 122 = .ok (.aload_n 0, 1) := by decide +kernel
theorem dX7_nextOf_123 : decode cX7_nextOf 123 = .ok (.getfield 49, 3) := by decide +kernel
theorem dX7_nextOf_126 : decode cX7_nextOf 126 = .ok (.iload_n 1, 1) := by decide +kernel
theorem dX7_nextOf_127 : decode cX7_nextOf 127 = .ok (.iaload, 1) := by decide +kernel
theorem dX7_nextOf_128 : decode cX7_nextOf 128 = .ok (.iload_n 3, 1) := by decide +kernel
theorem dX7_nextOf_129 : decode cX7_nextOf 129 = .ok (.ifCond .le 8, 3) := by decide +kernel
theorem dX7_nextOf_132 : decode cX7_nextOf 132 = .ok (.bipush 16, 2) := by decide +kernel
theorem dX7_nextOf_134 : decode cX7_nextOf 134 = .ok (.goto 5, 3) := by decide +kernel
theorem dX7_nextOf_137 : decode cX7_nextOf 137 = .ok (.bipush (-16), 2) := by decide +kernel
theorem dX7_nextOf_139 : decode cX7_nextOf 139 = .ok (.iadd, 1) := by decide +kernel
theorem dX7_nextOf_140 : decode cX7_nextOf 140 = .ok (.ireturn, 1) := by decide +kernel
theorem pd_X7_nextOf : (parseMethodDescriptor yX7_nextOf.desc).map (fun d => d.parameters.length) = some 1 := by decide +kernel
def w_X7_nextOf (zz : Nat → Nat) (a0 : Nat) (a1 : Int) (h : AH) (Q : Int → AH → Prop) : Prop := okA h a0 7 ∧ w_X7_goal zz a0 a1 h (fun (r2 : Int) (h2 : AH) => (0 ≤ r2 ∧ 0 < (16 : Int)) ∧ okA h2 a0 7 ∧ ∃ b9 : Nat, hfR h2 a0 17 = some b9 ∧ okI h2 b9 a1 ∧ (0 ≤ (haI h2 b9 a1) ∧ 0 < (16 : Int)) ∧ inR ((r2 % (16 : Int)) - ((haI h2 b9 a1) % (16 : Int))) ∧ ∀ x2_18 : Int, x2_18 = ((r2 % (16 : Int)) - ((haI h2 b9 a1) % (16 : Int))) → okA h2 a0 7 ∧ w_X7_goal zz a0 a1 h2 (fun (r21 : Int) (h21 : AH) => (0 ≤ r21 ∧ 0 < (16 : Int)) ∧ okA h21 a0 7 ∧ ∃ b28 : Nat, hfR h21 a0 17 = some b28 ∧ okI h21 b28 a1 ∧ (0 ≤ (haI h21 b28 a1) ∧ 0 < (16 : Int)) ∧ inR ((r21 / (16 : Int)) - ((haI h21 b28 a1) / (16 : Int))) ∧ ∀ x3_37 : Int, x3_37 = ((r21 / (16 : Int)) - ((haI h21 b28 a1) / (16 : Int))) → okA h21 a0 7 ∧ w_X7_of zz a0 (4 : Int) h21 (fun (r40 : Int) (h40 : AH) => jn (fun (t0_96 : Int) (h_96 : AH) => jn (fun (t0_140 : Int) (h_140 : AH) => Q t0_140 h_140) (fun k_140 : Int → AH → Prop => ((t0_96 = 0) → okA h_96 a0 7 ∧ ∃ b123 : Nat, hfR h_96 a0 17 = some b123 ∧ okI h_96 b123 a1 ∧ jn (fun (t1_139 : Int) (h_139 : AH) => inR ((haI h_96 b123 a1) + t1_139) ∧ k_140 ((haI h_96 b123 a1) + t1_139) h_139) (fun k_139 : Int → AH → Prop => ((x3_37 ≤ 0) → k_139 (-16 : Int) h_96) ∧ ((¬ (x3_37 ≤ 0)) → k_139 (16 : Int) h_96))) ∧ ((¬ (t0_96 = 0)) → okA h_96 a0 7 ∧ ∃ b104 : Nat, hfR h_96 a0 17 = some b104 ∧ okI h_96 b104 a1 ∧ jn (fun (t1_118 : Int) (h_118 : AH) => inR ((haI h_96 b104 a1) + t1_118) ∧ k_140 ((haI h_96 b104 a1) + t1_118) h_118) (fun k_118 : Int → AH → Prop => ((x2_18 ≤ 0) → k_118 (-1 : Int) h_96) ∧ ((¬ (x2_18 ≤ 0)) → k_118 (1 : Int) h_96))))) (fun k_96 : Int → AH → Prop => ((¬ r40 = 0) → ((¬ r40 = (1 : Int)) → w_X7_size zz x2_18 h40 (fun (r81 : Int) (h81 : AH) => w_X7_size zz x3_37 h81 (fun (r85 : Int) (h85 : AH) => ((r81 < r85) → k_96 (0 : Int) h85) ∧ ((¬ (r81 < r85)) → k_96 (1 : Int) h85)))) ∧ ((r40 = (1 : Int)) → ((¬ x3_37 = 0) → k_96 (0 : Int) h40) ∧ ((x3_37 = 0) → k_96 (1 : Int) h40))) ∧ ((r40 = 0) → ((x2_18 = 0) → k_96 (0 : Int) h40) ∧ ((¬ (x2_18 = 0)) → k_96 (1 : Int) h40))))))
set_option maxRecDepth 100000 in
set_option maxHeartbeats 4000000 in
theorem met_X7_nextOf (G : GG) (l : Launch) : ∀ (As : List Value) (a0 : Nat) (a1 : Int) (h : AH) (Q : Int → AH → Prop), As.map ab = List.map some ([vR a0, vI a1] : List AV) → w_X7_nextOf G.2.2 a0 a1 h Q → Met l yX7_nextOf (.code yX7_nextOf cX7_nextOf 6 (some .int) :: xTb) ({ frames := 1, cells := 0, slots := 0, locals := 21 } : Room) (PcA G As h) (QG G (oI Q)) 0 0 (frA G) := by
  intro As a0 a1 h Q hA hw
  refine met_of hA (by decide) (Nat.le_of_ble_eq_true rfl) (fun p e s m args below meth c C hml hr hnm => ?_)
  unfold w_X7_nextOf at hw
  refine aw_aload_n (pc := 0) C dX7_nextOf_0 rfl rfl ?_
  refine aw_iload_n (pc := 1) C dX7_nextOf_1 rfl rfl ?_
  obtain ⟨hp9, hw⟩ := hw
  refine aw_callV (pc := 2) (as := [vI a1]) C ci7 (fun As hA => met_X7_goal G l As a0 a1 _ _ hA hw) tw965 tw967 (tbp 51 (n := 21) (by decide +kernel)) tw10 tw968 ⟨rfl, rfl⟩ ⟨rfl, by decide, by decide, pd_X7_goal⟩ ⟨Nat.le_of_ble_eq_true rfl, Nat.le_of_ble_eq_true rfl⟩ ⟨Nat.zero_le _, Nat.zero_le _⟩ (Nat.le_of_ble_eq_true rfl) dX7_nextOf_2 rfl hp9 (fun v9 h2 hq9 => ?_)
  obtain ⟨r2, rfl, hw⟩ := hq9
  refine aw_bipush (pc := 5) C dX7_nextOf_5 (i := (16 : Int)) (by decide) ?_
  obtain ⟨hp9, hw⟩ := hw
  refine aw_irem (pc := 7) C dX7_nextOf_7 hp9 ?_
  refine aw_aload_n (pc := 8) C dX7_nextOf_8 rfl rfl ?_
  obtain ⟨hp9, b9, hb9, hw⟩ := hw
  refine aw_getR (pc := 9) C (ci := 7) (k := 17) ci7 (by decide) tw809 dX7_nextOf_9 rfl hp9 hb9 ?_
  refine aw_iload_n (pc := 12) C dX7_nextOf_12 rfl rfl ?_
  obtain ⟨⟨k9, hp9⟩, hw⟩ := hw
  refine aw_iald (pc := 13) C dX7_nextOf_13 hp9 ?_
  refine aw_bipush (pc := 14) C dX7_nextOf_14 (i := (16 : Int)) (by decide) ?_
  obtain ⟨hp9, hw⟩ := hw
  refine aw_irem (pc := 16) C dX7_nextOf_16 hp9 ?_
  obtain ⟨hp9, hw⟩ := hw
  refine aw_isub (pc := 17) C dX7_nextOf_17 hp9 ?_
  refine aw_nmI (fun x2_18 e9 => ?_)
  have hw := hw x2_18 e9
  refine aw_istore_n (pc := 18) C dX7_nextOf_18 rfl (by rw [hml]; decide) ?_
  refine aw_aload_n (pc := 19) C dX7_nextOf_19 rfl rfl ?_
  refine aw_iload_n (pc := 20) C dX7_nextOf_20 rfl rfl ?_
  obtain ⟨hp9, hw⟩ := hw
  refine aw_callV (pc := 21) (as := [vI a1]) C ci7 (fun As hA => met_X7_goal G l As a0 a1 _ _ hA hw) tw965 tw967 (tbp 51 (n := 21) (by decide +kernel)) tw10 tw968 ⟨rfl, rfl⟩ ⟨rfl, by decide, by decide, pd_X7_goal⟩ ⟨Nat.le_of_ble_eq_true rfl, Nat.le_of_ble_eq_true rfl⟩ ⟨Nat.zero_le _, Nat.zero_le _⟩ (Nat.le_of_ble_eq_true rfl) dX7_nextOf_21 rfl hp9 (fun v9 h21 hq9 => ?_)
  obtain ⟨r21, rfl, hw⟩ := hq9
  refine aw_bipush (pc := 24) C dX7_nextOf_24 (i := (16 : Int)) (by decide) ?_
  obtain ⟨hp9, hw⟩ := hw
  refine aw_idiv (pc := 26) C dX7_nextOf_26 hp9 ?_
  refine aw_aload_n (pc := 27) C dX7_nextOf_27 rfl rfl ?_
  obtain ⟨hp9, b28, hb9, hw⟩ := hw
  refine aw_getR (pc := 28) C (ci := 7) (k := 17) ci7 (by decide) tw809 dX7_nextOf_28 rfl hp9 hb9 ?_
  refine aw_iload_n (pc := 31) C dX7_nextOf_31 rfl rfl ?_
  obtain ⟨⟨k9, hp9⟩, hw⟩ := hw
  refine aw_iald (pc := 32) C dX7_nextOf_32 hp9 ?_
  refine aw_bipush (pc := 33) C dX7_nextOf_33 (i := (16 : Int)) (by decide) ?_
  obtain ⟨hp9, hw⟩ := hw
  refine aw_idiv (pc := 35) C dX7_nextOf_35 hp9 ?_
  obtain ⟨hp9, hw⟩ := hw
  refine aw_isub (pc := 36) C dX7_nextOf_36 hp9 ?_
  refine aw_nmI (fun x3_37 e9 => ?_)
  have hw := hw x3_37 e9
  refine aw_istore_n (pc := 37) C dX7_nextOf_37 rfl (by rw [hml]; decide) ?_
  refine aw_aload_n (pc := 38) C dX7_nextOf_38 rfl rfl ?_
  refine aw_iconst (pc := 39) C dX7_nextOf_39 (i := (4 : Int)) (by decide) ?_
  obtain ⟨hp9, hw⟩ := hw
  refine aw_callV (pc := 40) (as := [vI (4 : Int)]) C ci7 (fun As hA => met_X7_of G l As a0 (4 : Int) _ _ hA hw) tw945 tw947 (tbp 46 (n := 21) (by decide +kernel)) tw10 tw948 ⟨rfl, rfl⟩ ⟨rfl, by decide, by decide, pd_X7_of⟩ ⟨Nat.le_of_ble_eq_true rfl, Nat.le_of_ble_eq_true rfl⟩ ⟨Nat.zero_le _, Nat.zero_le _⟩ (Nat.le_of_ble_eq_true rfl) dX7_nextOf_40 rfl hp9 (fun v9 h40 hq9 => ?_)
  obtain ⟨r40, rfl, hw⟩ := hq9
  refine aw_istore (pc := 43) C dX7_nextOf_43 (by rw [hml]; decide) ?_
  refine aw_iload (pc := 45) C dX7_nextOf_45 rfl ?_
  obtain ⟨k_96, hk_96, hw⟩ := jn_out hw
  have J_96 : ∀ (t0_96 : Int) (h_96 : AH), k_96 t0_96 h_96 → AW G p l e ({ frames := 1, cells := 0, slots := 0, locals := 21 } : Room) s m args below meth c 0 0 (MQ below (QG G (oI Q)) args s 0 0 (frA G)) 96 (eOf [(0, vR a0), (1, vI a1), (2, vI x2_18), (3, vI x3_37)]) [vI t0_96] h_96 := by
    intro t0_96 h_96 hw
    rw [hk_96] at hw
    refine aw_istore (pc := 96) C dX7_nextOf_96 (by rw [hml]; decide) ?_
    refine aw_iload (pc := 98) C dX7_nextOf_98 rfl ?_
    obtain ⟨k_140, hk_140, hw⟩ := jn_out hw
    have J_140 : ∀ (t0_140 : Int) (h_140 : AH), k_140 t0_140 h_140 → AW G p l e ({ frames := 1, cells := 0, slots := 0, locals := 21 } : Room) s m args below meth c 0 0 (MQ below (QG G (oI Q)) args s 0 0 (frA G)) 140 (eOf []) [vI t0_140] h_140 := by
      intro t0_140 h_140 hw
      rw [hk_140] at hw
      exact aw_iret (pc := 140) C hr dX7_nextOf_140 ⟨Nat.le_of_ble_eq_true rfl, Nat.le_of_ble_eq_true rfl⟩ ⟨_, rfl, hw⟩
    refine aw_if_eq (pc := 100) (tgt := 122) C dX7_nextOf_100 (by decide) (fun hc9 => ?_) (fun hc9 => ?_)
    · have hw := hw.1 hc9
      refine aw_aload_n (pc := 122) C dX7_nextOf_122 rfl rfl ?_
      obtain ⟨hp9, b123, hb9, hw⟩ := hw
      refine aw_getR (pc := 123) C (ci := 7) (k := 17) ci7 (by decide) tw809 dX7_nextOf_123 rfl hp9 hb9 ?_
      refine aw_iload_n (pc := 126) C dX7_nextOf_126 rfl rfl ?_
      obtain ⟨⟨k9, hp9⟩, hw⟩ := hw
      refine aw_iald (pc := 127) C dX7_nextOf_127 hp9 ?_
      refine aw_iload_n (pc := 128) C dX7_nextOf_128 rfl rfl ?_
      obtain ⟨k_139, hk_139, hw⟩ := jn_out hw
      have J_139 : ∀ (t1_139 : Int) (h_139 : AH), k_139 t1_139 h_139 → AW G p l e ({ frames := 1, cells := 0, slots := 0, locals := 21 } : Room) s m args below meth c 0 0 (MQ below (QG G (oI Q)) args s 0 0 (frA G)) 139 (eOf []) [vI t1_139, vI (haI h_96 b123 a1)] h_139 := by
        intro t1_139 h_139 hw
        rw [hk_139] at hw
        obtain ⟨hp9, hw⟩ := hw
        refine aw_iadd (pc := 139) C dX7_nextOf_139 hp9 ?_
        refine aw_sub [] trivial ?_
        exact J_140 _ _ hw
      refine aw_if_le (pc := 129) (tgt := 137) C dX7_nextOf_129 (by decide) (fun hc9 => ?_) (fun hc9 => ?_)
      · have hw := hw.1 hc9
        refine aw_bipush (pc := 137) C dX7_nextOf_137 (i := (-16 : Int)) (by decide) ?_
        refine aw_sub [] trivial ?_
        exact J_139 _ _ hw
      · have hw := hw.2 hc9
        refine aw_bipush (pc := 132) C dX7_nextOf_132 (i := (16 : Int)) (by decide) ?_
        refine aw_goto (pc := 134) (tgt := 139) C dX7_nextOf_134 (by decide) ?_
        refine aw_sub [] trivial ?_
        exact J_139 _ _ hw
    · have hw := hw.2 hc9
      refine aw_aload_n (pc := 103) C dX7_nextOf_103 rfl rfl ?_
      obtain ⟨hp9, b104, hb9, hw⟩ := hw
      refine aw_getR (pc := 104) C (ci := 7) (k := 17) ci7 (by decide) tw809 dX7_nextOf_104 rfl hp9 hb9 ?_
      refine aw_iload_n (pc := 107) C dX7_nextOf_107 rfl rfl ?_
      obtain ⟨⟨k9, hp9⟩, hw⟩ := hw
      refine aw_iald (pc := 108) C dX7_nextOf_108 hp9 ?_
      refine aw_iload_n (pc := 109) C dX7_nextOf_109 rfl rfl ?_
      obtain ⟨k_118, hk_118, hw⟩ := jn_out hw
      have J_118 : ∀ (t1_118 : Int) (h_118 : AH), k_118 t1_118 h_118 → AW G p l e ({ frames := 1, cells := 0, slots := 0, locals := 21 } : Room) s m args below meth c 0 0 (MQ below (QG G (oI Q)) args s 0 0 (frA G)) 118 (eOf []) [vI t1_118, vI (haI h_96 b104 a1)] h_118 := by
        intro t1_118 h_118 hw
        rw [hk_118] at hw
        obtain ⟨hp9, hw⟩ := hw
        refine aw_iadd (pc := 118) C dX7_nextOf_118 hp9 ?_
        refine aw_goto (pc := 119) (tgt := 140) C dX7_nextOf_119 (by decide) ?_
        refine aw_sub [] trivial ?_
        exact J_140 _ _ hw
      refine aw_if_le (pc := 110) (tgt := 117) C dX7_nextOf_110 (by decide) (fun hc9 => ?_) (fun hc9 => ?_)
      · have hw := hw.1 hc9
        refine aw_iconst (pc := 117) C dX7_nextOf_117 (i := (-1 : Int)) (by decide) ?_
        refine aw_sub [] trivial ?_
        exact J_118 _ _ hw
      · have hw := hw.2 hc9
        refine aw_iconst (pc := 113) C dX7_nextOf_113 (i := (1 : Int)) (by decide) ?_
        refine aw_goto (pc := 114) (tgt := 118) C dX7_nextOf_114 (by decide) ?_
        refine aw_sub [] trivial ?_
        exact J_118 _ _ hw
  refine aw_if_ne (pc := 47) (tgt := 62) C dX7_nextOf_47 (by decide) (fun hc9 => ?_) (fun hc9 => ?_)
  · have hw := hw.1 hc9
    refine aw_iload (pc := 62) C dX7_nextOf_62 rfl ?_
    refine aw_iconst (pc := 64) C dX7_nextOf_64 (i := (1 : Int)) (by decide) ?_
    refine aw_icmp_ne (pc := 65) (tgt := 80) C dX7_nextOf_65 (by decide) (fun hc9 => ?_) (fun hc9 => ?_)
    · have hw := hw.1 hc9
      refine aw_iload_n (pc := 80) C dX7_nextOf_80 rfl rfl ?_
      refine aw_callS (pc := 81) (as := [vI x2_18]) C (fun As hA => met_X7_size G l As x2_18 _ _ hA hw) tw942 tw943 tw10 tw944 ⟨rfl, rfl⟩ ⟨by decide, by decide, pd_X7_size⟩ ⟨Nat.le_of_ble_eq_true rfl, Nat.le_of_ble_eq_true rfl⟩ ⟨Nat.zero_le _, Nat.zero_le _⟩ (Nat.le_of_ble_eq_true rfl) dX7_nextOf_81 rfl (fun v9 h81 hq9 => ?_)
      obtain ⟨r81, rfl, hw⟩ := hq9
      refine aw_iload_n (pc := 84) C dX7_nextOf_84 rfl rfl ?_
      refine aw_callS (pc := 85) (as := [vI x3_37]) C (fun As hA => met_X7_size G l As x3_37 _ _ hA hw) tw942 tw943 tw10 tw944 ⟨rfl, rfl⟩ ⟨by decide, by decide, pd_X7_size⟩ ⟨Nat.le_of_ble_eq_true rfl, Nat.le_of_ble_eq_true rfl⟩ ⟨Nat.zero_le _, Nat.zero_le _⟩ (Nat.le_of_ble_eq_true rfl) dX7_nextOf_85 rfl (fun v9 h85 hq9 => ?_)
      obtain ⟨r85, rfl, hw⟩ := hq9
      refine aw_icmp_lt (pc := 88) (tgt := 95) C dX7_nextOf_88 (by decide) (fun hc9 => ?_) (fun hc9 => ?_)
      · have hw := hw.1 hc9
        refine aw_iconst (pc := 95) C dX7_nextOf_95 (i := (0 : Int)) (by decide) ?_
        refine aw_sub [(0, vR a0), (1, vI a1), (2, vI x2_18), (3, vI x3_37)] ⟨rfl, rfl, rfl, rfl, trivial⟩ ?_
        exact J_96 _ _ hw
      · have hw := hw.2 hc9
        refine aw_iconst (pc := 91) C dX7_nextOf_91 (i := (1 : Int)) (by decide) ?_
        refine aw_goto (pc := 92) (tgt := 96) C dX7_nextOf_92 (by decide) ?_
        refine aw_sub [(0, vR a0), (1, vI a1), (2, vI x2_18), (3, vI x3_37)] ⟨rfl, rfl, rfl, rfl, trivial⟩ ?_
        exact J_96 _ _ hw
    · have hw := hw.2 hc9
      refine aw_iload_n (pc := 68) C dX7_nextOf_68 rfl rfl ?_
      refine aw_if_ne (pc := 69) (tgt := 76) C dX7_nextOf_69 (by decide) (fun hc9 => ?_) (fun hc9 => ?_)
      · have hw := hw.1 hc9
        refine aw_iconst (pc := 76) C dX7_nextOf_76 (i := (0 : Int)) (by decide) ?_
        refine aw_goto (pc := 77) (tgt := 96) C dX7_nextOf_77 (by decide) ?_
        refine aw_sub [(0, vR a0), (1, vI a1), (2, vI x2_18), (3, vI x3_37)] ⟨rfl, rfl, rfl, rfl, trivial⟩ ?_
        exact J_96 _ _ hw
      · have hw := hw.2 hc9
        refine aw_iconst (pc := 72) C dX7_nextOf_72 (i := (1 : Int)) (by decide) ?_
        refine aw_goto (pc := 73) (tgt := 96) C dX7_nextOf_73 (by decide) ?_
        refine aw_sub [(0, vR a0), (1, vI a1), (2, vI x2_18), (3, vI x3_37)] ⟨rfl, rfl, rfl, rfl, trivial⟩ ?_
        exact J_96 _ _ hw
  · have hw := hw.2 hc9
    refine aw_iload_n (pc := 50) C dX7_nextOf_50 rfl rfl ?_
    refine aw_if_eq (pc := 51) (tgt := 58) C dX7_nextOf_51 (by decide) (fun hc9 => ?_) (fun hc9 => ?_)
    · have hw := hw.1 hc9
      refine aw_iconst (pc := 58) C dX7_nextOf_58 (i := (0 : Int)) (by decide) ?_
      refine aw_goto (pc := 59) (tgt := 96) C dX7_nextOf_59 (by decide) ?_
      refine aw_sub [(0, vR a0), (1, vI a1), (2, vI x2_18), (3, vI x3_37)] ⟨rfl, rfl, rfl, rfl, trivial⟩ ?_
      exact J_96 _ _ hw
    · have hw := hw.2 hc9
      refine aw_iconst (pc := 54) C dX7_nextOf_54 (i := (1 : Int)) (by decide) ?_
      refine aw_goto (pc := 55) (tgt := 96) C dX7_nextOf_55 (by decide) ?_
      refine aw_sub [(0, vR a0), (1, vI a1), (2, vI x2_18), (3, vI x3_37)] ⟨rfl, rfl, rfl, rfl, trivial⟩ ?_
      exact J_96 _ _ hw
theorem dX7_isTaken_0 : decode cX7_isTaken 0 = .ok (.iconst 0, 1) := by decide +kernel
theorem dX7_isTaken_1 : decode cX7_isTaken 1 = .ok (.istore_n 3, 1) := by decide +kernel
theorem dX7_isTaken_2 : decode cX7_isTaken 2 = .ok (.iconst 0, 1) := by decide +kernel
theorem dX7_isTaken_3 : decode cX7_isTaken 3 = .ok (.istore 4, 2) := by decide +kernel
theorem dX7_isTaken_5 : decode cX7_isTaken 5 = .ok (.iload 4, 2) := by decide +kernel
theorem dX7_isTaken_7 : decode cX7_isTaken 7 = .ok (.aload_n 0, 1) := by decide +kernel
theorem dX7_isTaken_8 : decode cX7_isTaken 8 = .ok (.getfield 19, 3) := by decide +kernel
theorem dX7_isTaken_11 : decode cX7_isTaken 11 = .ok (.iconst 0, 1) := by decide +kernel
theorem dX7_isTaken_12 : decode cX7_isTaken 12 = .ok (.iaload, 1) := by decide +kernel
theorem dX7_isTaken_13 : decode cX7_isTaken 13 = .ok (.if_icmp .ge 47, 3) := by decide +kernel
theorem dX7_isTaken_16 : decode cX7_isTaken 16 = .ok (.iload_n 3, 1) := by decide +kernel
theorem dX7_isTaken_17 : decode cX7_isTaken 17 = .ok (.ifCond .ne 31, 3) := by decide +kernel
theorem dX7_isTaken_20 : decode cX7_isTaken 20 = .ok (.iload 4, 2) := by decide +kernel
theorem dX7_isTaken_22 : decode cX7_isTaken 22 = .ok (.iload_n 2, 1) := by decide +kernel
theorem dX7_isTaken_23 : decode cX7_isTaken 23 = .ok (.if_icmp .eq 29, 3) := by decide +kernel
theorem dX7_isTaken_26 : decode cX7_isTaken 26 = .ok (.aload_n 0, 1) := by decide +kernel
theorem dX7_isTaken_27 : decode cX7_isTaken 27 = .ok (.getfield 28, 3) := by decide +kernel
theorem dX7_isTaken_30 : decode cX7_isTaken 30 = .ok (.iload 4, 2) := by decide +kernel
theorem dX7_isTaken_32 : decode cX7_isTaken 32 = .ok (.iaload, 1) := by decide +kernel
theorem dX7_isTaken_33 : decode cX7_isTaken 33 = .ok (.iconst (-1), 1) := by decide +kernel
theorem dX7_isTaken_34 : decode cX7_isTaken 34 = .ok (.if_icmp .eq 18, 3) := by decide +kernel
theorem dX7_isTaken_37 : decode cX7_isTaken 37 = .ok (.aload_n 0, 1) := by decide +kernel
theorem dX7_isTaken_38 : decode cX7_isTaken 38 = .ok (.getfield 49, 3) := by decide +kernel
theorem dX7_isTaken_41 : decode cX7_isTaken 41 = .ok (.iload 4, 2) := by decide +kernel
theorem dX7_isTaken_43 : decode cX7_isTaken 43 = .ok (.iaload, 1) := by decide +kernel
theorem dX7_isTaken_44 : decode cX7_isTaken 44 = .ok (.iload_n 1, 1) := by decide +kernel
theorem dX7_isTaken_45 : decode cX7_isTaken 45 = .ok (.if_icmp .ne 7, 3) := by decide +kernel
theorem dX7_isTaken_48 : decode cX7_isTaken 48 = .ok (.iconst 1, 1) := by decide +kernel
theorem dX7_isTaken_49 : decode cX7_isTaken 49 = .ok (.goto 4, 3) := by decide +kernel
theorem dX7_isTaken_52 : decode cX7_isTaken 52 = .ok (.iconst 0, 1) := by decide +kernel
theorem dX7_isTaken_53 : decode cX7_isTaken 53 = .ok (.istore_n 3, 1) := by decide +kernel
theorem dX7_isTaken_54 : decode cX7_isTaken 54 = .ok (.iinc 4 1, 3) := by decide +kernel
theorem dX7_isTaken_57 : decode cX7_isTaken 57 = .ok (.goto (-52), 3) := by decide +kernel
theorem dX7_isTaken_60 : decode cX7_isTaken 60 = .ok (.iload_n 3, 1) := by decide +kernel
theorem dX7_isTaken_61 : decode cX7_isTaken 61 = .ok (.ireturn, 1) := by decide +kernel
theorem pd_X7_isTaken : (parseMethodDescriptor yX7_isTaken.desc).map (fun d => d.parameters.length) = some 2 := by decide +kernel
def w_X7_isTaken (zz : Nat → Nat) (a0 : Nat) (a1 : Int) (a2 : Int) (h : AH) (Q : Int → AH → Prop) : Prop := ∃ I_5 : Nat → Int → Int → AH → Prop, (∃ n, I_5 n (0 : Int) (0 : Int) h) ∧ ∀ (n_5 : Nat) (x3_5 : Int) (x4_5 : Int) (h_5 : AH), I_5 n_5 x3_5 x4_5 h_5 → (okA h_5 a0 7 ∧ ∃ b8 : Nat, hfR h_5 a0 6 = some b8 ∧ okI h_5 b8 (0 : Int) ∧ (((haI h_5 b8 (0 : Int)) ≤ x4_5) → (x3_5 = 0 ∨ x3_5 = 1) ∧ Q x3_5 h_5) ∧ ((¬ ((haI h_5 b8 (0 : Int)) ≤ x4_5)) → jn (fun (t0_53 : Int) (h_53 : AH) => inR (x4_5 + 1) ∧ ∀ x4_54 : Int, x4_54 = (x4_5 + 1) → ∃ m, m < n_5 ∧ I_5 m t0_53 x4_54 h_53) (fun k_53 : Int → AH → Prop => jn (fun  (h_48 : AH) => k_53 (1 : Int) h_48) (fun k_48 : AH → Prop => ((¬ x3_5 = 0) → k_48  h_5) ∧ ((x3_5 = 0) → jn (fun  (h_52 : AH) => k_53 (0 : Int) h_52) (fun k_52 : AH → Prop => ((x4_5 = a2) → k_52  h_5) ∧ ((¬ (x4_5 = a2)) → okA h_5 a0 7 ∧ ∃ b27 : Nat, hfR h_5 a0 9 = some b27 ∧ okI h_5 b27 x4_5 ∧ (((haI h_5 b27 x4_5) = (-1 : Int)) → k_52  h_5) ∧ ((¬ ((haI h_5 b27 x4_5) = (-1 : Int))) → okA h_5 a0 7 ∧ ∃ b38 : Nat, hfR h_5 a0 17 = some b38 ∧ okI h_5 b38 x4_5 ∧ ((¬ (haI h_5 b38 x4_5) = a1) → k_52  h_5) ∧ (((haI h_5 b38 x4_5) = a1) → k_48  h_5)))))))))
set_option maxRecDepth 100000 in
set_option maxHeartbeats 4000000 in
theorem met_X7_isTaken (G : GG) (l : Launch) : ∀ (As : List Value) (a0 : Nat) (a1 : Int) (a2 : Int) (h : AH) (Q : Int → AH → Prop), As.map ab = List.map some ([vR a0, vI a1, vI a2] : List AV) → w_X7_isTaken G.2.2 a0 a1 a2 h Q → Met l yX7_isTaken (.code yX7_isTaken cX7_isTaken 5 (some .boolean) :: xTb) ({ frames := 0, cells := 0, slots := 0, locals := 0 } : Room) (PcA G As h) (QG G (oI Q)) 0 0 (frA G) := by
  intro As a0 a1 a2 h Q hA hw
  refine met_of hA (by decide) (Nat.le_of_ble_eq_true rfl) (fun p e s m args below meth c C hml hr hnm => ?_)
  unfold w_X7_isTaken at hw
  refine aw_iconst (pc := 0) C dX7_isTaken_0 (i := (0 : Int)) (by decide) ?_
  refine aw_istore_n (pc := 1) C dX7_isTaken_1 rfl (by rw [hml]; decide) ?_
  refine aw_iconst (pc := 2) C dX7_isTaken_2 (i := (0 : Int)) (by decide) ?_
  refine aw_istore (pc := 3) C dX7_isTaken_3 (by rw [hml]; decide) ?_
  obtain ⟨I_5, ⟨n9, hi9⟩, hst9⟩ := hw
  have L_5 : ∀ (n_5 : Nat) (x3_5 : Int) (x4_5 : Int) (h_5 : AH), I_5 n_5 x3_5 x4_5 h_5 → AW G p l e ({ frames := 0, cells := 0, slots := 0, locals := 0 } : Room) s m args below meth c 0 0 (MQ below (QG G (oI Q)) args s 0 0 (frA G)) 5 (eOf [(0, vR a0), (1, vI a1), (2, vI a2), (3, vI x3_5), (4, vI x4_5)]) [] h_5 := by
    intro n_5
    induction n_5 using Nat.strongRecOn with
    | _ n_5 ih_5 =>
    intro x3_5 x4_5 h_5 hi9
    have hw := hst9 n_5 x3_5 x4_5 h_5 hi9
    refine aw_iload (pc := 5) C dX7_isTaken_5 rfl ?_
    refine aw_aload_n (pc := 7) C dX7_isTaken_7 rfl rfl ?_
    obtain ⟨hp9, b8, hb9, hw⟩ := hw
    refine aw_getR (pc := 8) C (ci := 7) (k := 6) ci7 (by decide) tw798 dX7_isTaken_8 rfl hp9 hb9 ?_
    refine aw_iconst (pc := 11) C dX7_isTaken_11 (i := (0 : Int)) (by decide) ?_
    obtain ⟨⟨k9, hp9⟩, hw⟩ := hw
    refine aw_iald (pc := 12) C dX7_isTaken_12 hp9 ?_
    refine aw_icmp_ge (pc := 13) (tgt := 60) C dX7_isTaken_13 (by decide) (fun hc9 => ?_) (fun hc9 => ?_)
    · have hw := hw.1 hc9
      refine aw_iload_n (pc := 60) C dX7_isTaken_60 rfl rfl ?_
      obtain ⟨hp9, hw⟩ := hw
      exact aw_zret (pc := 61) C hr dX7_isTaken_61 ⟨Nat.le_of_ble_eq_true rfl, Nat.le_of_ble_eq_true rfl⟩ hp9 ⟨_, rfl, hw⟩
    · have hw := hw.2 hc9
      refine aw_iload_n (pc := 16) C dX7_isTaken_16 rfl rfl ?_
      obtain ⟨k_53, hk_53, hw⟩ := jn_out hw
      have J_53 : ∀ (t0_53 : Int) (h_53 : AH), k_53 t0_53 h_53 → AW G p l e ({ frames := 0, cells := 0, slots := 0, locals := 0 } : Room) s m args below meth c 0 0 (MQ below (QG G (oI Q)) args s 0 0 (frA G)) 53 (eOf [(0, vR a0), (1, vI a1), (2, vI a2), (4, vI x4_5)]) [vI t0_53] h_53 := by
        intro t0_53 h_53 hw
        rw [hk_53] at hw
        refine aw_istore_n (pc := 53) C dX7_isTaken_53 rfl (by rw [hml]; decide) ?_
        obtain ⟨hp9, hw⟩ := hw
        refine aw_iincN (pc := 54) C dX7_isTaken_54 (k := 1) (by decide) rfl (by rw [hml]; decide) hp9 (fun x4_54 e9 => ?_)
        have hw := hw x4_54 e9
        refine aw_goto (pc := 57) (tgt := 5) C dX7_isTaken_57 (by decide) ?_
        obtain ⟨m9, hm9, hw⟩ := hw
        refine aw_sub [(0, vR a0), (1, vI a1), (2, vI a2), (3, vI t0_53), (4, vI x4_54)] ⟨rfl, rfl, rfl, rfl, rfl, trivial⟩ ?_
        exact ih_5 m9 hm9 _ _ _ hw
      obtain ⟨k_48, hk_48, hw⟩ := jn_out hw
      have J_48 : ∀  (h_48 : AH), k_48  h_48 → AW G p l e ({ frames := 0, cells := 0, slots := 0, locals := 0 } : Room) s m args below meth c 0 0 (MQ below (QG G (oI Q)) args s 0 0 (frA G)) 48 (eOf [(0, vR a0), (1, vI a1), (2, vI a2), (4, vI x4_5)]) [] h_48 := by
        intro  h_48 hw
        rw [hk_48] at hw
        refine aw_iconst (pc := 48) C dX7_isTaken_48 (i := (1 : Int)) (by decide) ?_
        refine aw_goto (pc := 49) (tgt := 53) C dX7_isTaken_49 (by decide) ?_
        refine aw_sub [(0, vR a0), (1, vI a1), (2, vI a2), (4, vI x4_5)] ⟨rfl, rfl, rfl, rfl, trivial⟩ ?_
        exact J_53 _ _ hw
      refine aw_if_ne (pc := 17) (tgt := 48) C dX7_isTaken_17 (by decide) (fun hc9 => ?_) (fun hc9 => ?_)
      · have hw := hw.1 hc9
        refine aw_sub [(0, vR a0), (1, vI a1), (2, vI a2), (4, vI x4_5)] ⟨rfl, rfl, rfl, rfl, trivial⟩ ?_
        exact J_48  _ hw
      · have hw := hw.2 hc9
        refine aw_iload (pc := 20) C dX7_isTaken_20 rfl ?_
        refine aw_iload_n (pc := 22) C dX7_isTaken_22 rfl rfl ?_
        obtain ⟨k_52, hk_52, hw⟩ := jn_out hw
        have J_52 : ∀  (h_52 : AH), k_52  h_52 → AW G p l e ({ frames := 0, cells := 0, slots := 0, locals := 0 } : Room) s m args below meth c 0 0 (MQ below (QG G (oI Q)) args s 0 0 (frA G)) 52 (eOf [(0, vR a0), (1, vI a1), (2, vI a2), (4, vI x4_5)]) [] h_52 := by
          intro  h_52 hw
          rw [hk_52] at hw
          refine aw_iconst (pc := 52) C dX7_isTaken_52 (i := (0 : Int)) (by decide) ?_
          refine aw_sub [(0, vR a0), (1, vI a1), (2, vI a2), (4, vI x4_5)] ⟨rfl, rfl, rfl, rfl, trivial⟩ ?_
          exact J_53 _ _ hw
        refine aw_icmp_eq (pc := 23) (tgt := 52) C dX7_isTaken_23 (by decide) (fun hc9 => ?_) (fun hc9 => ?_)
        · have hw := hw.1 hc9
          refine aw_sub [(0, vR a0), (1, vI a1), (2, vI a2), (4, vI x4_5)] ⟨rfl, rfl, rfl, rfl, trivial⟩ ?_
          exact J_52  _ hw
        · have hw := hw.2 hc9
          refine aw_aload_n (pc := 26) C dX7_isTaken_26 rfl rfl ?_
          obtain ⟨hp9, b27, hb9, hw⟩ := hw
          refine aw_getR (pc := 27) C (ci := 7) (k := 9) ci7 (by decide) tw801 dX7_isTaken_27 rfl hp9 hb9 ?_
          refine aw_iload (pc := 30) C dX7_isTaken_30 rfl ?_
          obtain ⟨⟨k9, hp9⟩, hw⟩ := hw
          refine aw_iald (pc := 32) C dX7_isTaken_32 hp9 ?_
          refine aw_iconst (pc := 33) C dX7_isTaken_33 (i := (-1 : Int)) (by decide) ?_
          refine aw_icmp_eq (pc := 34) (tgt := 52) C dX7_isTaken_34 (by decide) (fun hc9 => ?_) (fun hc9 => ?_)
          · have hw := hw.1 hc9
            refine aw_sub [(0, vR a0), (1, vI a1), (2, vI a2), (4, vI x4_5)] ⟨rfl, rfl, rfl, rfl, trivial⟩ ?_
            exact J_52  _ hw
          · have hw := hw.2 hc9
            refine aw_aload_n (pc := 37) C dX7_isTaken_37 rfl rfl ?_
            obtain ⟨hp9, b38, hb9, hw⟩ := hw
            refine aw_getR (pc := 38) C (ci := 7) (k := 17) ci7 (by decide) tw809 dX7_isTaken_38 rfl hp9 hb9 ?_
            refine aw_iload (pc := 41) C dX7_isTaken_41 rfl ?_
            obtain ⟨⟨k9, hp9⟩, hw⟩ := hw
            refine aw_iald (pc := 43) C dX7_isTaken_43 hp9 ?_
            refine aw_iload_n (pc := 44) C dX7_isTaken_44 rfl rfl ?_
            refine aw_icmp_ne (pc := 45) (tgt := 52) C dX7_isTaken_45 (by decide) (fun hc9 => ?_) (fun hc9 => ?_)
            · have hw := hw.1 hc9
              refine aw_sub [(0, vR a0), (1, vI a1), (2, vI a2), (4, vI x4_5)] ⟨rfl, rfl, rfl, rfl, trivial⟩ ?_
              exact J_52  _ hw
            · have hw := hw.2 hc9
              refine aw_sub [(0, vR a0), (1, vI a1), (2, vI a2), (4, vI x4_5)] ⟨rfl, rfl, rfl, rfl, trivial⟩ ?_
              exact J_48  _ hw
  refine aw_sub [(0, vR a0), (1, vI a1), (2, vI a2), (3, vI (0 : Int)), (4, vI (0 : Int))] ⟨rfl, rfl, rfl, rfl, rfl, trivial⟩ ?_
  exact L_5 n9 _ _ _ hi9
theorem dX7_firstMoving_0 : decode cX7_firstMoving 0 = .ok (.iconst 1, 1) := by decide +kernel
theorem dX7_firstMoving_1 : decode cX7_firstMoving 1 = .ok (.aload_n 0, 1) := by decide +kernel
theorem dX7_firstMoving_2 : decode cX7_firstMoving 2 = .ok (.bipush 6, 2) := by decide +kernel
theorem dX7_firstMoving_4 : decode cX7_firstMoving 4 = .ok (.invokevirtual 73, 3) := by decide +kernel
theorem dX7_firstMoving_7 : decode cX7_firstMoving 7 = .ok (.iadd, 1) := by decide +kernel
theorem dX7_firstMoving_8 : decode cX7_firstMoving 8 = .ok (.aload_n 0, 1) := by decide +kernel
theorem dX7_firstMoving_9 : decode cX7_firstMoving 9 = .ok (.iconst 0, 1) := by decide +kernel
theorem dX7_firstMoving_10 : decode cX7_firstMoving 10 = .ok (.iconst 4, 1) := by decide +kernel
theorem dX7_firstMoving_11 : decode cX7_firstMoving 11 = .ok (.invokevirtual 98, 3) := by decide +kernel
theorem dX7_firstMoving_14 : decode cX7_firstMoving 14 = .ok (.iadd, 1) := by decide +kernel
theorem dX7_firstMoving_15 : decode cX7_firstMoving 15 = .ok (.ireturn, 1) := by decide +kernel
theorem pd_X7_firstMoving : (parseMethodDescriptor yX7_firstMoving.desc).map (fun d => d.parameters.length) = some 0 := by decide +kernel
def w_X7_firstMoving (zz : Nat → Nat) (a0 : Nat) (h : AH) (Q : Int → AH → Prop) : Prop := okA h a0 7 ∧ w_X7_of zz a0 (6 : Int) h (fun (r4 : Int) (h4 : AH) => inR ((1 : Int) + r4) ∧ okA h4 a0 7 ∧ w_X7_ofKind zz a0 (0 : Int) (4 : Int) h4 (fun (r11 : Int) (h11 : AH) => inR (((1 : Int) + r4) + r11) ∧ Q (((1 : Int) + r4) + r11) h11))
set_option maxRecDepth 100000 in
set_option maxHeartbeats 4000000 in
theorem met_X7_firstMoving (G : GG) (l : Launch) : ∀ (As : List Value) (a0 : Nat) (h : AH) (Q : Int → AH → Prop), As.map ab = List.map some ([vR a0] : List AV) → w_X7_firstMoving G.2.2 a0 h Q → Met l yX7_firstMoving (.code yX7_firstMoving cX7_firstMoving 1 (some .int) :: xTb) ({ frames := 1, cells := 0, slots := 0, locals := 24 } : Room) (PcA G As h) (QG G (oI Q)) 0 0 (frA G) := by
  intro As a0 h Q hA hw
  refine met_of hA (by decide) (Nat.le_of_ble_eq_true rfl) (fun p e s m args below meth c C hml hr hnm => ?_)
  unfold w_X7_firstMoving at hw
  refine aw_iconst (pc := 0) C dX7_firstMoving_0 (i := (1 : Int)) (by decide) ?_
  refine aw_aload_n (pc := 1) C dX7_firstMoving_1 rfl rfl ?_
  refine aw_bipush (pc := 2) C dX7_firstMoving_2 (i := (6 : Int)) (by decide) ?_
  obtain ⟨hp9, hw⟩ := hw
  refine aw_callV (pc := 4) (as := [vI (6 : Int)]) C ci7 (fun As hA => met_X7_of G l As a0 (6 : Int) _ _ hA hw) tw945 tw947 (tbp 46 (n := 21) (by decide +kernel)) tw10 tw948 ⟨rfl, rfl⟩ ⟨rfl, by decide, by decide, pd_X7_of⟩ ⟨Nat.le_of_ble_eq_true rfl, Nat.le_of_ble_eq_true rfl⟩ ⟨Nat.zero_le _, Nat.zero_le _⟩ (Nat.le_of_ble_eq_true rfl) dX7_firstMoving_4 rfl hp9 (fun v9 h4 hq9 => ?_)
  obtain ⟨r4, rfl, hw⟩ := hq9
  obtain ⟨hp9, hw⟩ := hw
  refine aw_iadd (pc := 7) C dX7_firstMoving_7 hp9 ?_
  refine aw_aload_n (pc := 8) C dX7_firstMoving_8 rfl rfl ?_
  refine aw_iconst (pc := 9) C dX7_firstMoving_9 (i := (0 : Int)) (by decide) ?_
  refine aw_iconst (pc := 10) C dX7_firstMoving_10 (i := (4 : Int)) (by decide) ?_
  obtain ⟨hp9, hw⟩ := hw
  refine aw_callV (pc := 11) (as := [vI (0 : Int), vI (4 : Int)]) C ci7 (fun As hA => met_X7_ofKind G l As a0 (0 : Int) (4 : Int) _ _ hA hw) tw953 tw955 (tbp 48 (n := 21) (by decide +kernel)) tw10 tw956 ⟨rfl, rfl⟩ ⟨rfl, by decide, by decide, pd_X7_ofKind⟩ ⟨Nat.le_of_ble_eq_true rfl, Nat.le_of_ble_eq_true rfl⟩ ⟨Nat.zero_le _, Nat.zero_le _⟩ (Nat.le_of_ble_eq_true rfl) dX7_firstMoving_11 rfl hp9 (fun v9 h11 hq9 => ?_)
  obtain ⟨r11, rfl, hw⟩ := hq9
  obtain ⟨hp9, hw⟩ := hw
  refine aw_iadd (pc := 14) C dX7_firstMoving_14 hp9 ?_
  exact aw_iret (pc := 15) C hr dX7_firstMoving_15 ⟨Nat.le_of_ble_eq_true rfl, Nat.le_of_ble_eq_true rfl⟩ ⟨_, rfl, hw⟩
theorem dX7_layFrame_0 : decode cX7_layFrame 0 = .ok (.aload_n 0, 1) := by decide +kernel
theorem dX7_layFrame_1 : decode cX7_layFrame 1 = .ok (.getfield 40, 3) := by decide +kernel
theorem dX7_layFrame_4 : decode cX7_layFrame 4 = .ok (.aload_n 0, 1) := by decide +kernel
theorem dX7_layFrame_5 : decode cX7_layFrame 5 = .ok (.getfield 101, 3) := by decide +kernel
theorem dX7_layFrame_8 : decode cX7_layFrame 8 = .ok (.iconst 0, 1) := by decide +kernel
theorem dX7_layFrame_9 : decode cX7_layFrame 9 = .ok (.iastore, 1) := by decide +kernel
theorem dX7_layFrame_10 : decode cX7_layFrame 10 = .ok (.iconst 0, 1) := by decide +kernel
theorem dX7_layFrame_11 : decode cX7_layFrame 11 = .ok (.istore_n 1, 1) := by decide +kernel
theorem dX7_layFrame_12 : decode cX7_layFrame 12 = .ok (.iload_n 1, 1) := by decide +kernel
theorem dX7_layFrame_13 : decode cX7_layFrame 13 = .ok (.aload_n 0, 1) := by decide +kernel
theorem dX7_layFrame_14 : decode cX7_layFrame 14 = .ok (.getfield 19, 3) := by decide +kernel
theorem dX7_layFrame_17 : decode cX7_layFrame 17 = .ok (.iconst 0, 1) := by decide +kernel
theorem dX7_layFrame_18 : decode cX7_layFrame 18 = .ok (.iaload, 1) := by decide +kernel
theorem dX7_layFrame_19 : decode cX7_layFrame 19 = .ok (.if_icmp .ge 148, 3) := by decide +kernel
theorem dX7_layFrame_22 : decode cX7_layFrame 22 = .ok (.aload_n 0, 1) := by decide +kernel
theorem dX7_layFrame_23 : decode cX7_layFrame 23 = .ok (.iload_n 1, 1) := by decide +kernel
theorem dX7_layFrame_24 : decode cX7_layFrame 24 = .ok (.invokevirtual 94, 3) := by decide +kernel
theorem dX7_layFrame_27 : decode cX7_layFrame 27 = .ok (.ifCond .eq 134, 3) := by decide +kernel
theorem dX7_layFrame_30 : decode cX7_layFrame 30 = .ok (.aload_n 0, 1) := by decide +kernel
theorem dX7_layFrame_31 : decode cX7_layFrame 31 = .ok (.iload_n 1, 1) := by decide +kernel
theorem dX7_layFrame_32 : decode cX7_layFrame 32 = .ok (.invokevirtual 104, 3) := by decide +kernel
theorem dX7_layFrame_35 : decode cX7_layFrame 35 = .ok (.istore_n 2, 1) := by decide +kernel
theorem dX7_layFrame_36 : decode cX7_layFrame 36 = .ok (.aload_n 0, 1) := by decide +kernel
theorem dX7_layFrame_37 : decode cX7_layFrame 37 = .ok (.getfield 46, 3) := by decide +kernel
theorem dX7_layFrame_40 : decode cX7_layFrame 40 = .ok (.iload_n 1, 1) := by decide +kernel
theorem dX7_layFrame_41 : decode cX7_layFrame 41 = .ok (.iaload, 1) := by decide +kernel
theorem dX7_layFrame_42 : decode cX7_layFrame 42 = .ok (.aload_n 0, 1) := by decide +kernel
theorem dX7_layFrame_43 : decode cX7_layFrame 43 = .ok (.iconst 5, 1) := by decide +kernel
theorem dX7_layFrame_44 : decode cX7_layFrame 44 = .ok (.invokevirtual 73, 3) := by decide +kernel
theorem dX7_layFrame_47 : decode cX7_layFrame 47 = .ok (.if_icmp .ge 16, 3) := by decide +kernel
theorem dX7_layFrame_50 : decode cX7_layFrame 50 = .ok (.aload_n 0, 1) := by decide +kernel
theorem dX7_layFrame_51 : decode cX7_layFrame 51 = .ok (.iload_n 2, 1) := by decide +kernel
theorem dX7_layFrame_52 : decode cX7_layFrame 52 = .ok (.iload_n 1, 1) := by decide +kernel
theorem dX7_layFrame_53 : decode cX7_layFrame 53 = .ok (.invokevirtual 107, 3) := by decide +kernel
theorem dX7_layFrame_56 : decode cX7_layFrame 56 = .ok (.ifCond .eq 7, 3) := by decide +kernel
theorem dX7_layFrame_59 : decode cX7_layFrame 59 = .ok (.iconst 1, 1) := by decide +kernel
theorem dX7_layFrame_60 : decode cX7_layFrame 60 = .ok (.goto 4, 3) := by decide +kernel
theorem dX7_layFrame_63 : decode cX7_layFrame 63 = .ok (.iconst 0, 1) := by decide +kernel
theorem dX7_layFrame_64 : decode cX7_layFrame 64 = .ok (.istore_n 3, 1) := by decide +kernel
theorem dX7_layFrame_65 : decode cX7_layFrame 65 = .ok (.aload_n 0, 1) := by decide +kernel
theorem dX7_layFrame_66 : decode cX7_layFrame 66 = .ok (.getfield 46, 3) := by decide +kernel
theorem dX7_layFrame_69 : decode cX7_layFrame 69 = .ok (.iload_n 1, 1) := by decide +kernel
theorem dX7_layFrame_70 : decode cX7_layFrame 70 = .ok (.iload_n 3, 1) := by decide +kernel
theorem dX7_layFrame_71 : decode cX7_layFrame 71 = .ok (.ifCond .eq 14, 3) := by decide +kernel
theorem dX7_layFrame_74 : decode cX7_layFrame 74 = .ok (.aload_n 0, 1) := by decide +kernel
theorem dX7_layFrame_75 : decode cX7_layFrame 75 = .ok (.getfield 46, 3) := by decide +kernel
theorem dX7_layFrame_78 : decode cX7_layFrame 78 = .ok (.iload_n 1, 1) := by decide +kernel
theorem dX7_layFrame_79 : decode cX7_layFrame 79 = .ok (.iaload, 1) := by decide +kernel
theorem dX7_layFrame_80 : decode cX7_layFrame 80 = .ok (.iconst 1, 1) := by decide +kernel
theorem dX7_layFrame_81 : decode cX7_layFrame 81 = .ok (.iadd, 1) := by decide +kernel
theorem dX7_layFrame_82 : decode cX7_layFrame 82 = .ok (.goto 4, 3) := by decide +kernel
theorem dX7_layFrame_85 : decode cX7_layFrame 85 = .ok (.iconst 0, 1) := by decide +kernel
theorem dX7_layFrame_86 : decode cX7_layFrame 86 = .ok (.iastore, 1) := by decide +kernel
theorem dX7_layFrame_87 : decode cX7_layFrame 87 = .ok (.aload_n 0, 1) := by decide +kernel
theorem dX7_layFrame_88 : decode cX7_layFrame 88 = .ok (.getfield 43, 3) := by decide +kernel
theorem dX7_layFrame_91 : decode cX7_layFrame 91 = .ok (.iload_n 1, 1) := by decide +kernel
theorem dX7_layFrame_92 : decode cX7_layFrame 92 = .ok (.dup2, 1) := by decide +kernel
theorem dX7_layFrame_93 : decode cX7_layFrame 93 = .ok (.iaload, 1) := by decide +kernel
theorem dX7_layFrame_94 : decode cX7_layFrame 94 = .ok (.iload_n 3, 1) := by decide +kernel
theorem dX7_layFrame_95 : decode cX7_layFrame 95 = .ok (.ifCond .eq 7, 3) := by decide +kernel
theorem dX7_layFrame_98 : decode cX7_layFrame 98 = .ok (.iconst 1, 1) := by decide +kernel
theorem dX7_layFrame_99 : decode cX7_layFrame 99 = .ok (.goto 4, 3) := by decide +kernel
theorem dX7_layFrame_102 : decode cX7_layFrame 102 = .ok (.iconst 0, 1) := by decide +kernel
theorem dX7_layFrame_103 : decode cX7_layFrame 103 = .ok (.iadd, 1) := by decide +kernel
theorem dX7_layFrame_104 : decode cX7_layFrame 104 = .ok (.iastore, 1) := by decide +kernel
theorem dX7_layFrame_105 : decode cX7_layFrame 105 = .ok (.aload_n 0, 1) := by decide +kernel
theorem dX7_layFrame_106 : decode cX7_layFrame 106 = .ok (.getfield 40, 3) := by decide +kernel
theorem dX7_layFrame_109 : decode cX7_layFrame 109 = .ok (.aload_n 0, 1) := by decide +kernel
theorem dX7_layFrame_110 : decode cX7_layFrame 110 = .ok (.getfield 101, 3) := by decide +kernel
theorem dX7_layFrame_113 : decode cX7_layFrame 113 = .ok (.dup2, 1) := by decide +kernel
theorem dX7_layFrame_114 : decode cX7_layFrame 114 = .ok (.iaload, 1) := by decide +kernel
theorem dX7_layFrame_115 : decode cX7_layFrame 115 = .ok (.iload_n 3, 1) := by decide +kernel
theorem dX7_layFrame_116 : decode cX7_layFrame 116 = .ok (.ifCond .eq 7, 3) := by decide +kernel
theorem dX7_layFrame_119 : decode cX7_layFrame 119 = .ok (.iconst 1, 1) := by decide +kernel
theorem dX7_layFrame_120 : decode cX7_layFrame 120 = .ok (.goto 4, 3) := by decide +kernel
theorem dX7_layFrame_123 : decode cX7_layFrame 123 = .ok (.iconst 0, 1) := by decide +kernel
theorem dX7_layFrame_124 : decode cX7_layFrame 124 = .ok (.iadd, 1) := by decide +kernel
theorem dX7_layFrame_125 : decode cX7_layFrame 125 = .ok (.iastore, 1) := by decide +kernel
theorem dX7_layFrame_126 : decode cX7_layFrame 126 = .ok (.aload_n 0, 1) := by decide +kernel
theorem dX7_layFrame_127 : decode cX7_layFrame 127 = .ok (.getfield 49, 3) := by decide +kernel
theorem dX7_layFrame_130 : decode cX7_layFrame 130 = .ok (.iload_n 1, 1) := by decide +kernel
theorem dX7_layFrame_131 : decode cX7_layFrame 131 = .ok (.iload_n 3, 1) := by decide +kernel
theorem dX7_layFrame_132 : decode cX7_layFrame 132 = .ok (.ifCond .eq 12, 3) := by decide +kernel
theorem dX7_layFrame_135 : decode cX7_layFrame 135 = .ok (.aload_n 0, 1) := by decide +kernel
theorem dX7_layFrame_136 : decode cX7_layFrame 136 = .ok (.getfield 49, 3) := by decide +kernel
theorem dX7_layFrame_139 : decode cX7_layFrame 139 = .ok (.iload_n 1, 1) := by decide +kernel
theorem dX7_layFrame_140 : decode cX7_layFrame 140 = .ok (.iaload, 1) := by decide +kernel
theorem dX7_layFrame_141 : decode cX7_layFrame 141 = .ok (.goto 4, 3) := by decide +kernel
theorem dX7_layFrame_144 : decode cX7_layFrame 144 = .ok (.iload_n 2, 1) := by decide +kernel
theorem dX7_layFrame_145 : decode cX7_layFrame 145 = .ok (.iastore, 1) := by decide +kernel
theorem dX7_layFrame_146 : decode cX7_layFrame 146 = .ok (.aload_n 0, 1) := by decide +kernel
theorem dX7_layFrame_147 : decode cX7_layFrame 147 = .ok (.getfield 52, 3) := by decide +kernel
theorem dX7_layFrame_150 : decode cX7_layFrame 150 = .ok (.iload_n 1, 1) := by decide +kernel
theorem dX7_layFrame_151 : decode cX7_layFrame 151 = .ok (.aload_n 0, 1) := by decide +kernel
theorem dX7_layFrame_152 : decode cX7_layFrame 152 = .ok (.invokevirtual 110, 3) := by decide +kernel
theorem dX7_layFrame_155 : decode cX7_layFrame 155 = .ok (.aload_n 0, 1) := by decide +kernel
theorem dX7_layFrame_156 : decode cX7_layFrame 156 = .ok (.getfield 101, 3) := by decide +kernel
theorem dX7_layFrame_159 : decode cX7_layFrame 159 = .ok (.iadd, 1) := by decide +kernel
theorem dX7_layFrame_160 : decode cX7_layFrame 160 = .ok (.iastore, 1) := by decide +kernel
theorem dX7_layFrame_161 : decode cX7_layFrame 161 = .ok (.iinc 1 1, 3) := by decide +kernel
theorem dX7_layFrame_164 : decode cX7_layFrame 164 = .ok (.goto (-152), 3) := by decide +kernel
theorem dX7_layFrame_167 : decode cX7_layFrame 167 = .ok (.iconst 0, 1) := by decide +kernel
theorem dX7_layFrame_168 : decode cX7_layFrame 168 = .ok (.istore_n 1, 1) := by decide +kernel
theorem dX7_layFrame_169 : decode cX7_layFrame 169 = .ok (.iload_n 1, 1) := by decide +kernel
theorem dX7_layFrame_170 : decode cX7_layFrame 170 = .ok (.aload_n 0, 1) := by decide +kernel
theorem dX7_layFrame_171 : decode cX7_layFrame 171 = .ok (.getfield 19, 3) := by decide +kernel
theorem dX7_layFrame_174 : decode cX7_layFrame 174 = .ok (.iconst 0, 1) := by decide +kernel
theorem dX7_layFrame_175 : decode cX7_layFrame 175 = .ok (.iaload, 1) := by decide +kernel
theorem dX7_layFrame_176 : decode cX7_layFrame 176 = .ok (.if_icmp .ge 29, 3) := by decide +kernel
theorem dX7_layFrame_179 : decode cX7_layFrame 179 = .ok (.aload_n 0, 1) := by decide +kernel
theorem dX7_layFrame_180 : decode cX7_layFrame 180 = .ok (.getfield 37, 3) := by decide +kernel
theorem dX7_layFrame_183 : decode cX7_layFrame 183 = .ok (.bipush 40, 2) := by decide +kernel
theorem dX7_layFrame_185 : decode cX7_layFrame 185 = .ok (.aload_n 0, 1) := by decide +kernel
theorem dX7_layFrame_186 : decode cX7_layFrame 186 = .ok (.getfield 101, 3) := by decide +kernel
theorem dX7_layFrame_189 : decode cX7_layFrame 189 = .ok (.imul, 1) := by decide +kernel
theorem dX7_layFrame_190 : decode cX7_layFrame 190 = .ok (.iload_n 1, 1) := by decide +kernel
theorem dX7_layFrame_191 : decode cX7_layFrame 191 = .ok (.iadd, 1) := by decide +kernel
theorem dX7_layFrame_192 : decode cX7_layFrame 192 = .ok (.aload_n 0, 1) := by decide +kernel
theorem dX7_layFrame_193 : decode cX7_layFrame 193 = .ok (.getfield 49, 3) := by decide +kernel
theorem dX7_layFrame_196 : decode cX7_layFrame 196 = .ok (.iload_n 1, 1) := by decide +kernel
theorem dX7_layFrame_197 : decode cX7_layFrame 197 = .ok (.iaload, 1) := by decide +kernel
theorem dX7_layFrame_198 : decode cX7_layFrame 198 = .ok (.iastore, 1) := by decide +kernel
theorem dX7_layFrame_199 : decode cX7_layFrame 199 = .ok (.iinc 1 1, 3) := by decide +kernel
theorem dX7_layFrame_202 : decode cX7_layFrame 202 = .ok (.goto (-33), 3) := by decide +kernel
theorem dX7_layFrame_205 : decode cX7_layFrame 205 = .ok (.aload_n 0, 1) := by decide +kernel
theorem dX7_layFrame_206 : decode cX7_layFrame 206 = .ok (.dup, 1) := by decide +kernel
theorem dX7_layFrame_207 : decode cX7_layFrame 207 = .ok (.getfield 101, 3) := by decide +kernel
theorem dX7_layFrame_210 : decode cX7_layFrame 210 = .ok (.iconst 1, 1) := by decide +kernel
theorem dX7_layFrame_211 : decode cX7_layFrame 211 = .ok (.iadd, 1) := by decide +kernel
theorem dX7_layFrame_212 : decode cX7_layFrame 212 = .ok (.putfield 101, 3) := by decide +kernel
theorem dX7_layFrame_215 : decode cX7_layFrame 215 = .ok (.return_, 1) := by decide +kernel
theorem pd_X7_layFrame : (parseMethodDescriptor yX7_layFrame.desc).map (fun d => d.parameters.length) = some 0 := by decide +kernel
def w_X7_layFrame (zz : Nat → Nat) (a0 : Nat) (h : AH) (Q : AH → Prop) : Prop := okA h a0 7 ∧ ∃ b1 : Nat, hfR h a0 14 = some b1 ∧ okA h a0 7 ∧ okW h b1 (hfI h a0 12) ∧ ∀ h9 : AH, h9 = saI h b1 (u1 (haI h b1) (hfI h a0 12) (0 : Int)) → ∃ I_12 : Nat → Int → AH → Prop, (∃ n, I_12 n (0 : Int) h9) ∧ ∀ (n_12 : Nat) (x1_12 : Int) (h_12 : AH), I_12 n_12 x1_12 h_12 → (okA h_12 a0 7 ∧ ∃ b14 : Nat, hfR h_12 a0 6 = some b14 ∧ okI h_12 b14 (0 : Int) ∧ (((haI h_12 b14 (0 : Int)) ≤ x1_12) → ∃ I_169 : Nat → Int → AH → Prop, (∃ n, I_169 n (0 : Int) h_12) ∧ ∀ (n_169 : Nat) (x1_169 : Int) (h_169 : AH), I_169 n_169 x1_169 h_169 → (okA h_169 a0 7 ∧ ∃ b171 : Nat, hfR h_169 a0 6 = some b171 ∧ okI h_169 b171 (0 : Int) ∧ (((haI h_169 b171 (0 : Int)) ≤ x1_169) → okA h_169 a0 7 ∧ inR ((hfI h_169 a0 12) + (1 : Int)) ∧ okP h_169 a0 7 ∧ ∀ h212 : AH, h212 = sfI h_169 a0 12 ((hfI h_169 a0 12) + (1 : Int)) → Q h212) ∧ ((¬ ((haI h_169 b171 (0 : Int)) ≤ x1_169)) → okA h_169 a0 7 ∧ ∃ b180 : Nat, hfR h_169 a0 13 = some b180 ∧ okA h_169 a0 7 ∧ inR ((40 : Int) * (hfI h_169 a0 12)) ∧ inR (((40 : Int) * (hfI h_169 a0 12)) + x1_169) ∧ okA h_169 a0 7 ∧ ∃ b193 : Nat, hfR h_169 a0 17 = some b193 ∧ okI h_169 b193 x1_169 ∧ okW h_169 b180 (((40 : Int) * (hfI h_169 a0 12)) + x1_169) ∧ ∀ h198 : AH, h198 = saI h_169 b180 (u1 (haI h_169 b180) (((40 : Int) * (hfI h_169 a0 12)) + x1_169) (haI h_169 b193 x1_169)) → inR (x1_169 + 1) ∧ ∀ x1_199 : Int, x1_199 = (x1_169 + 1) → ∃ m, m < n_169 ∧ I_169 m x1_199 h198))) ∧ ((¬ ((haI h_12 b14 (0 : Int)) ≤ x1_12)) → okA h_12 a0 7 ∧ w_X7_isGoing zz a0 x1_12 h_12 (fun (r24 : Int) (h24 : AH) => jn (fun  (h_161 : AH) => inR (x1_12 + 1) ∧ ∀ x1_161 : Int, x1_161 = (x1_12 + 1) → ∃ m, m < n_12 ∧ I_12 m x1_161 h_161) (fun k_161 : AH → Prop => ((r24 = 0) → k_161  h24) ∧ ((¬ (r24 = 0)) → okA h24 a0 7 ∧ w_X7_nextOf zz a0 x1_12 h24 (fun (r32 : Int) (h32 : AH) => okA h32 a0 7 ∧ ∃ b37 : Nat, hfR h32 a0 16 = some b37 ∧ okI h32 b37 x1_12 ∧ okA h32 a0 7 ∧ w_X7_of zz a0 (5 : Int) h32 (fun (r44 : Int) (h44 : AH) => jn (fun (t0_64 : Int) (h_64 : AH) => okA h_64 a0 7 ∧ ∃ b66 : Nat, hfR h_64 a0 16 = some b66 ∧ jn (fun (t2_86 : Int) (h_86 : AH) => okW h_86 b66 x1_12 ∧ ∀ h86 : AH, h86 = saI h_86 b66 (u1 (haI h_86 b66) x1_12 t2_86) → okA h86 a0 7 ∧ ∃ b88 : Nat, hfR h86 a0 15 = some b88 ∧ okI h86 b88 x1_12 ∧ jn (fun (t3_103 : Int) (h_103 : AH) => inR ((haI h86 b88 x1_12) + t3_103) ∧ okW h_103 b88 x1_12 ∧ ∀ h104 : AH, h104 = saI h_103 b88 (u1 (haI h_103 b88) x1_12 ((haI h86 b88 x1_12) + t3_103)) → okA h104 a0 7 ∧ ∃ b106 : Nat, hfR h104 a0 14 = some b106 ∧ okA h104 a0 7 ∧ okI h104 b106 (hfI h104 a0 12) ∧ jn (fun (t3_124 : Int) (h_124 : AH) => inR ((haI h104 b106 (hfI h104 a0 12)) + t3_124) ∧ okW h_124 b106 (hfI h104 a0 12) ∧ ∀ h125 : AH, h125 = saI h_124 b106 (u1 (haI h_124 b106) (hfI h104 a0 12) ((haI h104 b106 (hfI h104 a0 12)) + t3_124)) → okA h125 a0 7 ∧ ∃ b127 : Nat, hfR h125 a0 17 = some b127 ∧ jn (fun (t2_145 : Int) (h_145 : AH) => okW h_145 b127 x1_12 ∧ ∀ h145 : AH, h145 = saI h_145 b127 (u1 (haI h_145 b127) x1_12 t2_145) → okA h145 a0 7 ∧ ∃ b147 : Nat, hfR h145 a0 18 = some b147 ∧ okA h145 a0 7 ∧ w_X7_firstMoving zz a0 h145 (fun (r152 : Int) (h152 : AH) => okA h152 a0 7 ∧ inR (r152 + (hfI h152 a0 12)) ∧ okW h152 b147 x1_12 ∧ ∀ h160 : AH, h160 = saI h152 b147 (u1 (haI h152 b147) x1_12 (r152 + (hfI h152 a0 12))) → k_161  h160)) (fun k_145 : Int → AH → Prop => ((t0_64 = 0) → k_145 r32 h125) ∧ ((¬ (t0_64 = 0)) → okA h125 a0 7 ∧ ∃ b136 : Nat, hfR h125 a0 17 = some b136 ∧ okI h125 b136 x1_12 ∧ k_145 (haI h125 b136 x1_12) h125))) (fun k_124 : Int → AH → Prop => ((t0_64 = 0) → k_124 (0 : Int) h104) ∧ ((¬ (t0_64 = 0)) → k_124 (1 : Int) h104))) (fun k_103 : Int → AH → Prop => ((t0_64 = 0) → k_103 (0 : Int) h86) ∧ ((¬ (t0_64 = 0)) → k_103 (1 : Int) h86))) (fun k_86 : Int → AH → Prop => ((t0_64 = 0) → k_86 (0 : Int) h_64) ∧ ((¬ (t0_64 = 0)) → okA h_64 a0 7 ∧ ∃ b75 : Nat, hfR h_64 a0 16 = some b75 ∧ okI h_64 b75 x1_12 ∧ inR ((haI h_64 b75 x1_12) + (1 : Int)) ∧ k_86 ((haI h_64 b75 x1_12) + (1 : Int)) h_64))) (fun k_64 : Int → AH → Prop => jn (fun  (h_63 : AH) => k_64 (0 : Int) h_63) (fun k_63 : AH → Prop => ((r44 ≤ (haI h32 b37 x1_12)) → k_63  h44) ∧ ((¬ (r44 ≤ (haI h32 b37 x1_12))) → okA h44 a0 7 ∧ w_X7_isTaken zz a0 r32 x1_12 h44 (fun (r53 : Int) (h53 : AH) => ((r53 = 0) → k_63  h53) ∧ ((¬ (r53 = 0)) → k_64 (1 : Int) h53))))))))))))
set_option maxRecDepth 100000 in
set_option maxHeartbeats 4000000 in
theorem met_X7_layFrame (G : GG) (l : Launch) : ∀ (As : List Value) (a0 : Nat) (h : AH) (Q : AH → Prop), As.map ab = List.map some ([vR a0] : List AV) → w_X7_layFrame G.2.2 a0 h Q → Met l yX7_layFrame (.code yX7_layFrame cX7_layFrame 4 none :: xTb) ({ frames := 2, cells := 0, slots := 0, locals := 46 } : Room) (PcA G As h) (QG G (oV Q)) 0 0 (frA G) := by
  intro As a0 h Q hA hw
  refine met_of hA (by decide) (Nat.le_of_ble_eq_true rfl) (fun p e s m args below meth c C hml hr hnm => ?_)
  unfold w_X7_layFrame at hw
  refine aw_aload_n (pc := 0) C dX7_layFrame_0 rfl rfl ?_
  obtain ⟨hp9, b1, hb9, hw⟩ := hw
  refine aw_getR (pc := 1) C (ci := 7) (k := 14) ci7 (by decide) tw806 dX7_layFrame_1 rfl hp9 hb9 ?_
  refine aw_aload_n (pc := 4) C dX7_layFrame_4 rfl rfl ?_
  obtain ⟨hp9, hw⟩ := hw
  refine aw_getI (pc := 5) C (ci := 7) (k := 12) ci7 (by decide) tw804 dX7_layFrame_5 rfl hp9 ?_
  refine aw_iconst (pc := 8) C dX7_layFrame_8 (i := (0 : Int)) (by decide) ?_
  obtain ⟨⟨k9, hp9⟩, hw⟩ := hw
  refine aw_iast (pc := 9) C dX7_layFrame_9 hp9 (aw_nmH (fun h9 e9 => ?_))
  have hw := hw h9 e9
  refine aw_iconst (pc := 10) C dX7_layFrame_10 (i := (0 : Int)) (by decide) ?_
  refine aw_istore_n (pc := 11) C dX7_layFrame_11 rfl (by rw [hml]; decide) ?_
  obtain ⟨I_12, ⟨n9, hi9⟩, hst9⟩ := hw
  have L_12 : ∀ (n_12 : Nat) (x1_12 : Int) (h_12 : AH), I_12 n_12 x1_12 h_12 → AW G p l e ({ frames := 2, cells := 0, slots := 0, locals := 46 } : Room) s m args below meth c 0 0 (MQ below (QG G (oV Q)) args s 0 0 (frA G)) 12 (eOf [(0, vR a0), (1, vI x1_12)]) [] h_12 := by
    intro n_12
    induction n_12 using Nat.strongRecOn with
    | _ n_12 ih_12 =>
    intro x1_12 h_12 hi9
    have hw := hst9 n_12 x1_12 h_12 hi9
    refine aw_iload_n (pc := 12) C dX7_layFrame_12 rfl rfl ?_
    refine aw_aload_n (pc := 13) C dX7_layFrame_13 rfl rfl ?_
    obtain ⟨hp9, b14, hb9, hw⟩ := hw
    refine aw_getR (pc := 14) C (ci := 7) (k := 6) ci7 (by decide) tw798 dX7_layFrame_14 rfl hp9 hb9 ?_
    refine aw_iconst (pc := 17) C dX7_layFrame_17 (i := (0 : Int)) (by decide) ?_
    obtain ⟨⟨k9, hp9⟩, hw⟩ := hw
    refine aw_iald (pc := 18) C dX7_layFrame_18 hp9 ?_
    refine aw_icmp_ge (pc := 19) (tgt := 167) C dX7_layFrame_19 (by decide) (fun hc9 => ?_) (fun hc9 => ?_)
    · have hw := hw.1 hc9
      refine aw_iconst (pc := 167) C dX7_layFrame_167 (i := (0 : Int)) (by decide) ?_
      refine aw_istore_n (pc := 168) C dX7_layFrame_168 rfl (by rw [hml]; decide) ?_
      obtain ⟨I_169, ⟨n9, hi9⟩, hst9⟩ := hw
      have L_169 : ∀ (n_169 : Nat) (x1_169 : Int) (h_169 : AH), I_169 n_169 x1_169 h_169 → AW G p l e ({ frames := 2, cells := 0, slots := 0, locals := 46 } : Room) s m args below meth c 0 0 (MQ below (QG G (oV Q)) args s 0 0 (frA G)) 169 (eOf [(0, vR a0), (1, vI x1_169)]) [] h_169 := by
        intro n_169
        induction n_169 using Nat.strongRecOn with
        | _ n_169 ih_169 =>
        intro x1_169 h_169 hi9
        have hw := hst9 n_169 x1_169 h_169 hi9
        refine aw_iload_n (pc := 169) C dX7_layFrame_169 rfl rfl ?_
        refine aw_aload_n (pc := 170) C dX7_layFrame_170 rfl rfl ?_
        obtain ⟨hp9, b171, hb9, hw⟩ := hw
        refine aw_getR (pc := 171) C (ci := 7) (k := 6) ci7 (by decide) tw798 dX7_layFrame_171 rfl hp9 hb9 ?_
        refine aw_iconst (pc := 174) C dX7_layFrame_174 (i := (0 : Int)) (by decide) ?_
        obtain ⟨⟨k9, hp9⟩, hw⟩ := hw
        refine aw_iald (pc := 175) C dX7_layFrame_175 hp9 ?_
        refine aw_icmp_ge (pc := 176) (tgt := 205) C dX7_layFrame_176 (by decide) (fun hc9 => ?_) (fun hc9 => ?_)
        · have hw := hw.1 hc9
          refine aw_aload_n (pc := 205) C dX7_layFrame_205 rfl rfl ?_
          refine aw_dup (pc := 206) C dX7_layFrame_206 rfl ?_
          obtain ⟨hp9, hw⟩ := hw
          refine aw_getI (pc := 207) C (ci := 7) (k := 12) ci7 (by decide) tw804 dX7_layFrame_207 rfl hp9 ?_
          refine aw_iconst (pc := 210) C dX7_layFrame_210 (i := (1 : Int)) (by decide) ?_
          obtain ⟨hp9, hw⟩ := hw
          refine aw_iadd (pc := 211) C dX7_layFrame_211 hp9 ?_
          obtain ⟨hp9, hw⟩ := hw
          refine aw_putI (pc := 212) C (ci := 7) (k := 12) ci7 (by decide) tw804 (Or.inl rfl) dX7_layFrame_212 rfl hp9 (aw_nmH (fun h212 e9 => ?_))
          have hw := hw h212 e9
          exact aw_vret (pc := 215) C hr dX7_layFrame_215 ⟨Nat.le_of_ble_eq_true rfl, Nat.le_of_ble_eq_true rfl⟩ ⟨rfl, hw⟩
        · have hw := hw.2 hc9
          refine aw_aload_n (pc := 179) C dX7_layFrame_179 rfl rfl ?_
          obtain ⟨hp9, b180, hb9, hw⟩ := hw
          refine aw_getR (pc := 180) C (ci := 7) (k := 13) ci7 (by decide) tw805 dX7_layFrame_180 rfl hp9 hb9 ?_
          refine aw_bipush (pc := 183) C dX7_layFrame_183 (i := (40 : Int)) (by decide) ?_
          refine aw_aload_n (pc := 185) C dX7_layFrame_185 rfl rfl ?_
          obtain ⟨hp9, hw⟩ := hw
          refine aw_getI (pc := 186) C (ci := 7) (k := 12) ci7 (by decide) tw804 dX7_layFrame_186 rfl hp9 ?_
          obtain ⟨hp9, hw⟩ := hw
          refine aw_imul (pc := 189) C dX7_layFrame_189 hp9 ?_
          refine aw_iload_n (pc := 190) C dX7_layFrame_190 rfl rfl ?_
          obtain ⟨hp9, hw⟩ := hw
          refine aw_iadd (pc := 191) C dX7_layFrame_191 hp9 ?_
          refine aw_aload_n (pc := 192) C dX7_layFrame_192 rfl rfl ?_
          obtain ⟨hp9, b193, hb9, hw⟩ := hw
          refine aw_getR (pc := 193) C (ci := 7) (k := 17) ci7 (by decide) tw809 dX7_layFrame_193 rfl hp9 hb9 ?_
          refine aw_iload_n (pc := 196) C dX7_layFrame_196 rfl rfl ?_
          obtain ⟨⟨k9, hp9⟩, hw⟩ := hw
          refine aw_iald (pc := 197) C dX7_layFrame_197 hp9 ?_
          obtain ⟨⟨k9, hp9⟩, hw⟩ := hw
          refine aw_iast (pc := 198) C dX7_layFrame_198 hp9 (aw_nmH (fun h198 e9 => ?_))
          have hw := hw h198 e9
          obtain ⟨hp9, hw⟩ := hw
          refine aw_iincN (pc := 199) C dX7_layFrame_199 (k := 1) (by decide) rfl (by rw [hml]; decide) hp9 (fun x1_199 e9 => ?_)
          have hw := hw x1_199 e9
          refine aw_goto (pc := 202) (tgt := 169) C dX7_layFrame_202 (by decide) ?_
          obtain ⟨m9, hm9, hw⟩ := hw
          refine aw_sub [(0, vR a0), (1, vI x1_199)] ⟨rfl, rfl, trivial⟩ ?_
          exact ih_169 m9 hm9 _ _ hw
      refine aw_sub [(0, vR a0), (1, vI (0 : Int))] ⟨rfl, rfl, trivial⟩ ?_
      exact L_169 n9 _ _ hi9
    · have hw := hw.2 hc9
      refine aw_aload_n (pc := 22) C dX7_layFrame_22 rfl rfl ?_
      refine aw_iload_n (pc := 23) C dX7_layFrame_23 rfl rfl ?_
      obtain ⟨hp9, hw⟩ := hw
      refine aw_callV (pc := 24) (as := [vI x1_12]) C ci7 (fun As hA => met_X7_isGoing G l As a0 x1_12 _ _ hA hw) tw961 tw963 (tbp 50 (n := 21) (by decide +kernel)) tw10 tw964 ⟨rfl, rfl⟩ ⟨rfl, by decide, by decide, pd_X7_isGoing⟩ ⟨Nat.le_of_ble_eq_true rfl, Nat.le_of_ble_eq_true rfl⟩ ⟨Nat.zero_le _, Nat.zero_le _⟩ (Nat.le_of_ble_eq_true rfl) dX7_layFrame_24 rfl hp9 (fun v9 h24 hq9 => ?_)
      obtain ⟨r24, rfl, hw⟩ := hq9
      obtain ⟨k_161, hk_161, hw⟩ := jn_out hw
      have J_161 : ∀  (h_161 : AH), k_161  h_161 → AW G p l e ({ frames := 2, cells := 0, slots := 0, locals := 46 } : Room) s m args below meth c 0 0 (MQ below (QG G (oV Q)) args s 0 0 (frA G)) 161 (eOf [(0, vR a0), (1, vI x1_12)]) [] h_161 := by
        intro  h_161 hw
        rw [hk_161] at hw
        obtain ⟨hp9, hw⟩ := hw
        refine aw_iincN (pc := 161) C dX7_layFrame_161 (k := 1) (by decide) rfl (by rw [hml]; decide) hp9 (fun x1_161 e9 => ?_)
        have hw := hw x1_161 e9
        refine aw_goto (pc := 164) (tgt := 12) C dX7_layFrame_164 (by decide) ?_
        obtain ⟨m9, hm9, hw⟩ := hw
        refine aw_sub [(0, vR a0), (1, vI x1_161)] ⟨rfl, rfl, trivial⟩ ?_
        exact ih_12 m9 hm9 _ _ hw
      refine aw_if_eq (pc := 27) (tgt := 161) C dX7_layFrame_27 (by decide) (fun hc9 => ?_) (fun hc9 => ?_)
      · have hw := hw.1 hc9
        refine aw_sub [(0, vR a0), (1, vI x1_12)] ⟨rfl, rfl, trivial⟩ ?_
        exact J_161  _ hw
      · have hw := hw.2 hc9
        refine aw_aload_n (pc := 30) C dX7_layFrame_30 rfl rfl ?_
        refine aw_iload_n (pc := 31) C dX7_layFrame_31 rfl rfl ?_
        obtain ⟨hp9, hw⟩ := hw
        refine aw_callV (pc := 32) (as := [vI x1_12]) C ci7 (fun As hA => met_X7_nextOf G l As a0 x1_12 _ _ hA hw) tw969 tw971 (tbp 52 (n := 21) (by decide +kernel)) tw10 tw972 ⟨rfl, rfl⟩ ⟨rfl, by decide, by decide, pd_X7_nextOf⟩ ⟨Nat.le_of_ble_eq_true rfl, Nat.le_of_ble_eq_true rfl⟩ ⟨Nat.zero_le _, Nat.zero_le _⟩ (Nat.le_of_ble_eq_true rfl) dX7_layFrame_32 rfl hp9 (fun v9 h32 hq9 => ?_)
        obtain ⟨r32, rfl, hw⟩ := hq9
        refine aw_istore_n (pc := 35) C dX7_layFrame_35 rfl (by rw [hml]; decide) ?_
        refine aw_aload_n (pc := 36) C dX7_layFrame_36 rfl rfl ?_
        obtain ⟨hp9, b37, hb9, hw⟩ := hw
        refine aw_getR (pc := 37) C (ci := 7) (k := 16) ci7 (by decide) tw808 dX7_layFrame_37 rfl hp9 hb9 ?_
        refine aw_iload_n (pc := 40) C dX7_layFrame_40 rfl rfl ?_
        obtain ⟨⟨k9, hp9⟩, hw⟩ := hw
        refine aw_iald (pc := 41) C dX7_layFrame_41 hp9 ?_
        refine aw_aload_n (pc := 42) C dX7_layFrame_42 rfl rfl ?_
        refine aw_iconst (pc := 43) C dX7_layFrame_43 (i := (5 : Int)) (by decide) ?_
        obtain ⟨hp9, hw⟩ := hw
        refine aw_callV (pc := 44) (as := [vI (5 : Int)]) C ci7 (fun As hA => met_X7_of G l As a0 (5 : Int) _ _ hA hw) tw945 tw947 (tbp 46 (n := 21) (by decide +kernel)) tw10 tw948 ⟨rfl, rfl⟩ ⟨rfl, by decide, by decide, pd_X7_of⟩ ⟨Nat.le_of_ble_eq_true rfl, Nat.le_of_ble_eq_true rfl⟩ ⟨Nat.zero_le _, Nat.zero_le _⟩ (Nat.le_of_ble_eq_true rfl) dX7_layFrame_44 rfl hp9 (fun v9 h44 hq9 => ?_)
        obtain ⟨r44, rfl, hw⟩ := hq9
        obtain ⟨k_64, hk_64, hw⟩ := jn_out hw
        have J_64 : ∀ (t0_64 : Int) (h_64 : AH), k_64 t0_64 h_64 → AW G p l e ({ frames := 2, cells := 0, slots := 0, locals := 46 } : Room) s m args below meth c 0 0 (MQ below (QG G (oV Q)) args s 0 0 (frA G)) 64 (eOf [(0, vR a0), (1, vI x1_12), (2, vI r32)]) [vI t0_64] h_64 := by
          intro t0_64 h_64 hw
          rw [hk_64] at hw
          refine aw_istore_n (pc := 64) C dX7_layFrame_64 rfl (by rw [hml]; decide) ?_
          refine aw_aload_n (pc := 65) C dX7_layFrame_65 rfl rfl ?_
          obtain ⟨hp9, b66, hb9, hw⟩ := hw
          refine aw_getR (pc := 66) C (ci := 7) (k := 16) ci7 (by decide) tw808 dX7_layFrame_66 rfl hp9 hb9 ?_
          refine aw_iload_n (pc := 69) C dX7_layFrame_69 rfl rfl ?_
          refine aw_iload_n (pc := 70) C dX7_layFrame_70 rfl rfl ?_
          obtain ⟨k_86, hk_86, hw⟩ := jn_out hw
          have J_86 : ∀ (t2_86 : Int) (h_86 : AH), k_86 t2_86 h_86 → AW G p l e ({ frames := 2, cells := 0, slots := 0, locals := 46 } : Room) s m args below meth c 0 0 (MQ below (QG G (oV Q)) args s 0 0 (frA G)) 86 (eOf [(0, vR a0), (1, vI x1_12), (2, vI r32), (3, vI t0_64)]) [vI t2_86, vI x1_12, vR b66] h_86 := by
            intro t2_86 h_86 hw
            rw [hk_86] at hw
            obtain ⟨⟨k9, hp9⟩, hw⟩ := hw
            refine aw_iast (pc := 86) C dX7_layFrame_86 hp9 (aw_nmH (fun h86 e9 => ?_))
            have hw := hw h86 e9
            refine aw_aload_n (pc := 87) C dX7_layFrame_87 rfl rfl ?_
            obtain ⟨hp9, b88, hb9, hw⟩ := hw
            refine aw_getR (pc := 88) C (ci := 7) (k := 15) ci7 (by decide) tw807 dX7_layFrame_88 rfl hp9 hb9 ?_
            refine aw_iload_n (pc := 91) C dX7_layFrame_91 rfl rfl ?_
            refine aw_dup2 (pc := 92) C dX7_layFrame_92 rfl rfl ?_
            obtain ⟨⟨k9, hp9⟩, hw⟩ := hw
            refine aw_iald (pc := 93) C dX7_layFrame_93 hp9 ?_
            refine aw_iload_n (pc := 94) C dX7_layFrame_94 rfl rfl ?_
            obtain ⟨k_103, hk_103, hw⟩ := jn_out hw
            have J_103 : ∀ (t3_103 : Int) (h_103 : AH), k_103 t3_103 h_103 → AW G p l e ({ frames := 2, cells := 0, slots := 0, locals := 46 } : Room) s m args below meth c 0 0 (MQ below (QG G (oV Q)) args s 0 0 (frA G)) 103 (eOf [(0, vR a0), (1, vI x1_12), (2, vI r32), (3, vI t0_64)]) [vI t3_103, vI (haI h86 b88 x1_12), vI x1_12, vR b88] h_103 := by
              intro t3_103 h_103 hw
              rw [hk_103] at hw
              obtain ⟨hp9, hw⟩ := hw
              refine aw_iadd (pc := 103) C dX7_layFrame_103 hp9 ?_
              obtain ⟨⟨k9, hp9⟩, hw⟩ := hw
              refine aw_iast (pc := 104) C dX7_layFrame_104 hp9 (aw_nmH (fun h104 e9 => ?_))
              have hw := hw h104 e9
              refine aw_aload_n (pc := 105) C dX7_layFrame_105 rfl rfl ?_
              obtain ⟨hp9, b106, hb9, hw⟩ := hw
              refine aw_getR (pc := 106) C (ci := 7) (k := 14) ci7 (by decide) tw806 dX7_layFrame_106 rfl hp9 hb9 ?_
              refine aw_aload_n (pc := 109) C dX7_layFrame_109 rfl rfl ?_
              obtain ⟨hp9, hw⟩ := hw
              refine aw_getI (pc := 110) C (ci := 7) (k := 12) ci7 (by decide) tw804 dX7_layFrame_110 rfl hp9 ?_
              refine aw_dup2 (pc := 113) C dX7_layFrame_113 rfl rfl ?_
              obtain ⟨⟨k9, hp9⟩, hw⟩ := hw
              refine aw_iald (pc := 114) C dX7_layFrame_114 hp9 ?_
              refine aw_iload_n (pc := 115) C dX7_layFrame_115 rfl rfl ?_
              obtain ⟨k_124, hk_124, hw⟩ := jn_out hw
              have J_124 : ∀ (t3_124 : Int) (h_124 : AH), k_124 t3_124 h_124 → AW G p l e ({ frames := 2, cells := 0, slots := 0, locals := 46 } : Room) s m args below meth c 0 0 (MQ below (QG G (oV Q)) args s 0 0 (frA G)) 124 (eOf [(0, vR a0), (1, vI x1_12), (2, vI r32), (3, vI t0_64)]) [vI t3_124, vI (haI h104 b106 (hfI h104 a0 12)), vI (hfI h104 a0 12), vR b106] h_124 := by
                intro t3_124 h_124 hw
                rw [hk_124] at hw
                obtain ⟨hp9, hw⟩ := hw
                refine aw_iadd (pc := 124) C dX7_layFrame_124 hp9 ?_
                obtain ⟨⟨k9, hp9⟩, hw⟩ := hw
                refine aw_iast (pc := 125) C dX7_layFrame_125 hp9 (aw_nmH (fun h125 e9 => ?_))
                have hw := hw h125 e9
                refine aw_aload_n (pc := 126) C dX7_layFrame_126 rfl rfl ?_
                obtain ⟨hp9, b127, hb9, hw⟩ := hw
                refine aw_getR (pc := 127) C (ci := 7) (k := 17) ci7 (by decide) tw809 dX7_layFrame_127 rfl hp9 hb9 ?_
                refine aw_iload_n (pc := 130) C dX7_layFrame_130 rfl rfl ?_
                refine aw_iload_n (pc := 131) C dX7_layFrame_131 rfl rfl ?_
                obtain ⟨k_145, hk_145, hw⟩ := jn_out hw
                have J_145 : ∀ (t2_145 : Int) (h_145 : AH), k_145 t2_145 h_145 → AW G p l e ({ frames := 2, cells := 0, slots := 0, locals := 46 } : Room) s m args below meth c 0 0 (MQ below (QG G (oV Q)) args s 0 0 (frA G)) 145 (eOf [(0, vR a0), (1, vI x1_12)]) [vI t2_145, vI x1_12, vR b127] h_145 := by
                  intro t2_145 h_145 hw
                  rw [hk_145] at hw
                  obtain ⟨⟨k9, hp9⟩, hw⟩ := hw
                  refine aw_iast (pc := 145) C dX7_layFrame_145 hp9 (aw_nmH (fun h145 e9 => ?_))
                  have hw := hw h145 e9
                  refine aw_aload_n (pc := 146) C dX7_layFrame_146 rfl rfl ?_
                  obtain ⟨hp9, b147, hb9, hw⟩ := hw
                  refine aw_getR (pc := 147) C (ci := 7) (k := 18) ci7 (by decide) tw810 dX7_layFrame_147 rfl hp9 hb9 ?_
                  refine aw_iload_n (pc := 150) C dX7_layFrame_150 rfl rfl ?_
                  refine aw_aload_n (pc := 151) C dX7_layFrame_151 rfl rfl ?_
                  obtain ⟨hp9, hw⟩ := hw
                  refine aw_callV (pc := 152) (as := []) C ci7 (fun As hA => met_X7_firstMoving G l As a0 _ _ hA hw) tw977 tw979 (tbp 54 (n := 21) (by decide +kernel)) tw10 tw980 ⟨rfl, rfl⟩ ⟨rfl, by decide, by decide, pd_X7_firstMoving⟩ ⟨Nat.le_of_ble_eq_true rfl, Nat.le_of_ble_eq_true rfl⟩ ⟨Nat.zero_le _, Nat.zero_le _⟩ (Nat.le_of_ble_eq_true rfl) dX7_layFrame_152 rfl hp9 (fun v9 h152 hq9 => ?_)
                  obtain ⟨r152, rfl, hw⟩ := hq9
                  refine aw_aload_n (pc := 155) C dX7_layFrame_155 rfl rfl ?_
                  obtain ⟨hp9, hw⟩ := hw
                  refine aw_getI (pc := 156) C (ci := 7) (k := 12) ci7 (by decide) tw804 dX7_layFrame_156 rfl hp9 ?_
                  obtain ⟨hp9, hw⟩ := hw
                  refine aw_iadd (pc := 159) C dX7_layFrame_159 hp9 ?_
                  obtain ⟨⟨k9, hp9⟩, hw⟩ := hw
                  refine aw_iast (pc := 160) C dX7_layFrame_160 hp9 (aw_nmH (fun h160 e9 => ?_))
                  have hw := hw h160 e9
                  refine aw_sub [(0, vR a0), (1, vI x1_12)] ⟨rfl, rfl, trivial⟩ ?_
                  exact J_161  _ hw
                refine aw_if_eq (pc := 132) (tgt := 144) C dX7_layFrame_132 (by decide) (fun hc9 => ?_) (fun hc9 => ?_)
                · have hw := hw.1 hc9
                  refine aw_iload_n (pc := 144) C dX7_layFrame_144 rfl rfl ?_
                  refine aw_sub [(0, vR a0), (1, vI x1_12)] ⟨rfl, rfl, trivial⟩ ?_
                  exact J_145 _ _ hw
                · have hw := hw.2 hc9
                  refine aw_aload_n (pc := 135) C dX7_layFrame_135 rfl rfl ?_
                  obtain ⟨hp9, b136, hb9, hw⟩ := hw
                  refine aw_getR (pc := 136) C (ci := 7) (k := 17) ci7 (by decide) tw809 dX7_layFrame_136 rfl hp9 hb9 ?_
                  refine aw_iload_n (pc := 139) C dX7_layFrame_139 rfl rfl ?_
                  obtain ⟨⟨k9, hp9⟩, hw⟩ := hw
                  refine aw_iald (pc := 140) C dX7_layFrame_140 hp9 ?_
                  refine aw_goto (pc := 141) (tgt := 145) C dX7_layFrame_141 (by decide) ?_
                  refine aw_sub [(0, vR a0), (1, vI x1_12)] ⟨rfl, rfl, trivial⟩ ?_
                  exact J_145 _ _ hw
              refine aw_if_eq (pc := 116) (tgt := 123) C dX7_layFrame_116 (by decide) (fun hc9 => ?_) (fun hc9 => ?_)
              · have hw := hw.1 hc9
                refine aw_iconst (pc := 123) C dX7_layFrame_123 (i := (0 : Int)) (by decide) ?_
                refine aw_sub [(0, vR a0), (1, vI x1_12), (2, vI r32), (3, vI t0_64)] ⟨rfl, rfl, rfl, rfl, trivial⟩ ?_
                exact J_124 _ _ hw
              · have hw := hw.2 hc9
                refine aw_iconst (pc := 119) C dX7_layFrame_119 (i := (1 : Int)) (by decide) ?_
                refine aw_goto (pc := 120) (tgt := 124) C dX7_layFrame_120 (by decide) ?_
                refine aw_sub [(0, vR a0), (1, vI x1_12), (2, vI r32), (3, vI t0_64)] ⟨rfl, rfl, rfl, rfl, trivial⟩ ?_
                exact J_124 _ _ hw
            refine aw_if_eq (pc := 95) (tgt := 102) C dX7_layFrame_95 (by decide) (fun hc9 => ?_) (fun hc9 => ?_)
            · have hw := hw.1 hc9
              refine aw_iconst (pc := 102) C dX7_layFrame_102 (i := (0 : Int)) (by decide) ?_
              refine aw_sub [(0, vR a0), (1, vI x1_12), (2, vI r32), (3, vI t0_64)] ⟨rfl, rfl, rfl, rfl, trivial⟩ ?_
              exact J_103 _ _ hw
            · have hw := hw.2 hc9
              refine aw_iconst (pc := 98) C dX7_layFrame_98 (i := (1 : Int)) (by decide) ?_
              refine aw_goto (pc := 99) (tgt := 103) C dX7_layFrame_99 (by decide) ?_
              refine aw_sub [(0, vR a0), (1, vI x1_12), (2, vI r32), (3, vI t0_64)] ⟨rfl, rfl, rfl, rfl, trivial⟩ ?_
              exact J_103 _ _ hw
          refine aw_if_eq (pc := 71) (tgt := 85) C dX7_layFrame_71 (by decide) (fun hc9 => ?_) (fun hc9 => ?_)
          · have hw := hw.1 hc9
            refine aw_iconst (pc := 85) C dX7_layFrame_85 (i := (0 : Int)) (by decide) ?_
            refine aw_sub [(0, vR a0), (1, vI x1_12), (2, vI r32), (3, vI t0_64)] ⟨rfl, rfl, rfl, rfl, trivial⟩ ?_
            exact J_86 _ _ hw
          · have hw := hw.2 hc9
            refine aw_aload_n (pc := 74) C dX7_layFrame_74 rfl rfl ?_
            obtain ⟨hp9, b75, hb9, hw⟩ := hw
            refine aw_getR (pc := 75) C (ci := 7) (k := 16) ci7 (by decide) tw808 dX7_layFrame_75 rfl hp9 hb9 ?_
            refine aw_iload_n (pc := 78) C dX7_layFrame_78 rfl rfl ?_
            obtain ⟨⟨k9, hp9⟩, hw⟩ := hw
            refine aw_iald (pc := 79) C dX7_layFrame_79 hp9 ?_
            refine aw_iconst (pc := 80) C dX7_layFrame_80 (i := (1 : Int)) (by decide) ?_
            obtain ⟨hp9, hw⟩ := hw
            refine aw_iadd (pc := 81) C dX7_layFrame_81 hp9 ?_
            refine aw_goto (pc := 82) (tgt := 86) C dX7_layFrame_82 (by decide) ?_
            refine aw_sub [(0, vR a0), (1, vI x1_12), (2, vI r32), (3, vI t0_64)] ⟨rfl, rfl, rfl, rfl, trivial⟩ ?_
            exact J_86 _ _ hw
        obtain ⟨k_63, hk_63, hw⟩ := jn_out hw
        have J_63 : ∀  (h_63 : AH), k_63  h_63 → AW G p l e ({ frames := 2, cells := 0, slots := 0, locals := 46 } : Room) s m args below meth c 0 0 (MQ below (QG G (oV Q)) args s 0 0 (frA G)) 63 (eOf [(0, vR a0), (1, vI x1_12), (2, vI r32)]) [] h_63 := by
          intro  h_63 hw
          rw [hk_63] at hw
          refine aw_iconst (pc := 63) C dX7_layFrame_63 (i := (0 : Int)) (by decide) ?_
          refine aw_sub [(0, vR a0), (1, vI x1_12), (2, vI r32)] ⟨rfl, rfl, rfl, trivial⟩ ?_
          exact J_64 _ _ hw
        refine aw_icmp_ge (pc := 47) (tgt := 63) C dX7_layFrame_47 (by decide) (fun hc9 => ?_) (fun hc9 => ?_)
        · have hw := hw.1 hc9
          refine aw_sub [(0, vR a0), (1, vI x1_12), (2, vI r32)] ⟨rfl, rfl, rfl, trivial⟩ ?_
          exact J_63  _ hw
        · have hw := hw.2 hc9
          refine aw_aload_n (pc := 50) C dX7_layFrame_50 rfl rfl ?_
          refine aw_iload_n (pc := 51) C dX7_layFrame_51 rfl rfl ?_
          refine aw_iload_n (pc := 52) C dX7_layFrame_52 rfl rfl ?_
          obtain ⟨hp9, hw⟩ := hw
          refine aw_callV (pc := 53) (as := [vI r32, vI x1_12]) C ci7 (fun As hA => met_X7_isTaken G l As a0 r32 x1_12 _ _ hA hw) tw973 tw975 (tbp 53 (n := 21) (by decide +kernel)) tw10 tw976 ⟨rfl, rfl⟩ ⟨rfl, by decide, by decide, pd_X7_isTaken⟩ ⟨Nat.le_of_ble_eq_true rfl, Nat.le_of_ble_eq_true rfl⟩ ⟨Nat.zero_le _, Nat.zero_le _⟩ (Nat.le_of_ble_eq_true rfl) dX7_layFrame_53 rfl hp9 (fun v9 h53 hq9 => ?_)
          obtain ⟨r53, rfl, hw⟩ := hq9
          refine aw_if_eq (pc := 56) (tgt := 63) C dX7_layFrame_56 (by decide) (fun hc9 => ?_) (fun hc9 => ?_)
          · have hw := hw.1 hc9
            refine aw_sub [(0, vR a0), (1, vI x1_12), (2, vI r32)] ⟨rfl, rfl, rfl, trivial⟩ ?_
            exact J_63  _ hw
          · have hw := hw.2 hc9
            refine aw_iconst (pc := 59) C dX7_layFrame_59 (i := (1 : Int)) (by decide) ?_
            refine aw_goto (pc := 60) (tgt := 64) C dX7_layFrame_60 (by decide) ?_
            refine aw_sub [(0, vR a0), (1, vI x1_12), (2, vI r32)] ⟨rfl, rfl, rfl, trivial⟩ ?_
            exact J_64 _ _ hw
  refine aw_sub [(0, vR a0), (1, vI (0 : Int))] ⟨rfl, rfl, trivial⟩ ?_
  exact L_12 n9 _ _ hi9
theorem dX7_layFrames_0 : decode cX7_layFrames 0 = .ok (.aload_n 0, 1) := by decide +kernel
theorem dX7_layFrames_1 : decode cX7_layFrames 1 = .ok (.iconst 0, 1) := by decide +kernel
theorem dX7_layFrames_2 : decode cX7_layFrames 2 = .ok (.putfield 101, 3) := by decide +kernel
theorem dX7_layFrames_5 : decode cX7_layFrames 5 = .ok (.iconst 0, 1) := by decide +kernel
theorem dX7_layFrames_6 : decode cX7_layFrames 6 = .ok (.istore_n 1, 1) := by decide +kernel
theorem dX7_layFrames_7 : decode cX7_layFrames 7 = .ok (.iload_n 1, 1) := by decide +kernel
theorem dX7_layFrames_8 : decode cX7_layFrames 8 = .ok (.aload_n 0, 1) := by decide +kernel
theorem dX7_layFrames_9 : decode cX7_layFrames 9 = .ok (.getfield 19, 3) := by decide +kernel
theorem dX7_layFrames_12 : decode cX7_layFrames 12 = .ok (.iconst 0, 1) := by decide +kernel
theorem dX7_layFrames_13 : decode cX7_layFrames 13 = .ok (.iaload, 1) := by decide +kernel
theorem dX7_layFrames_14 : decode cX7_layFrames 14 = .ok (.if_icmp .ge 42, 3) := by decide +kernel
theorem dX7_layFrames_17 : decode cX7_layFrames 17 = .ok (.aload_n 0, 1) := by decide +kernel
theorem dX7_layFrames_18 : decode cX7_layFrames 18 = .ok (.getfield 49, 3) := by decide +kernel
theorem dX7_layFrames_21 : decode cX7_layFrames 21 = .ok (.iload_n 1, 1) := by decide +kernel
theorem dX7_layFrames_22 : decode cX7_layFrames 22 = .ok (.aload_n 0, 1) := by decide +kernel
theorem dX7_layFrames_23 : decode cX7_layFrames 23 = .ok (.getfield 22, 3) := by decide +kernel
theorem dX7_layFrames_26 : decode cX7_layFrames 26 = .ok (.iload_n 1, 1) := by decide +kernel
theorem dX7_layFrames_27 : decode cX7_layFrames 27 = .ok (.iaload, 1) := by decide +kernel
theorem dX7_layFrames_28 : decode cX7_layFrames 28 = .ok (.iastore, 1) := by decide +kernel
theorem dX7_layFrames_29 : decode cX7_layFrames 29 = .ok (.aload_n 0, 1) := by decide +kernel
theorem dX7_layFrames_30 : decode cX7_layFrames 30 = .ok (.getfield 46, 3) := by decide +kernel
theorem dX7_layFrames_33 : decode cX7_layFrames 33 = .ok (.iload_n 1, 1) := by decide +kernel
theorem dX7_layFrames_34 : decode cX7_layFrames 34 = .ok (.iconst 0, 1) := by decide +kernel
theorem dX7_layFrames_35 : decode cX7_layFrames 35 = .ok (.iastore, 1) := by decide +kernel
theorem dX7_layFrames_36 : decode cX7_layFrames 36 = .ok (.aload_n 0, 1) := by decide +kernel
theorem dX7_layFrames_37 : decode cX7_layFrames 37 = .ok (.getfield 43, 3) := by decide +kernel
theorem dX7_layFrames_40 : decode cX7_layFrames 40 = .ok (.iload_n 1, 1) := by decide +kernel
theorem dX7_layFrames_41 : decode cX7_layFrames 41 = .ok (.iconst 0, 1) := by decide +kernel
theorem dX7_layFrames_42 : decode cX7_layFrames 42 = .ok (.iastore, 1) := by decide +kernel
theorem dX7_layFrames_43 : decode cX7_layFrames 43 = .ok (.aload_n 0, 1) := by decide +kernel
theorem dX7_layFrames_44 : decode cX7_layFrames 44 = .ok (.getfield 52, 3) := by decide +kernel
theorem dX7_layFrames_47 : decode cX7_layFrames 47 = .ok (.iload_n 1, 1) := by decide +kernel
theorem dX7_layFrames_48 : decode cX7_layFrames 48 = .ok (.iconst 0, 1) := by decide +kernel
theorem dX7_layFrames_49 : decode cX7_layFrames 49 = .ok (.iastore, 1) := by decide +kernel
theorem dX7_layFrames_50 : decode cX7_layFrames 50 = .ok (.iinc 1 1, 3) := by decide +kernel
theorem dX7_layFrames_53 : decode cX7_layFrames 53 = .ok (.goto (-46), 3) := by decide +kernel
theorem dX7_layFrames_56 : decode cX7_layFrames 56 = .ok (.aload_n 0, 1) := by decide +kernel
theorem dX7_layFrames_57 : decode cX7_layFrames 57 = .ok (.iconst 0, 1) := by decide +kernel
theorem dX7_layFrames_58 : decode cX7_layFrames 58 = .ok (.iconst 3, 1) := by decide +kernel
theorem dX7_layFrames_59 : decode cX7_layFrames 59 = .ok (.invokevirtual 98, 3) := by decide +kernel
theorem dX7_layFrames_62 : decode cX7_layFrames 62 = .ok (.ifCond .le 7, 3) := by decide +kernel
theorem dX7_layFrames_65 : decode cX7_layFrames 65 = .ok (.aload_n 0, 1) := by decide +kernel
theorem dX7_layFrames_66 : decode cX7_layFrames 66 = .ok (.invokevirtual 114, 3) := by decide +kernel
theorem dX7_layFrames_69 : decode cX7_layFrames 69 = .ok (.aload_n 0, 1) := by decide +kernel
theorem dX7_layFrames_70 : decode cX7_layFrames 70 = .ok (.invokevirtual 117, 3) := by decide +kernel
theorem dX7_layFrames_73 : decode cX7_layFrames 73 = .ok (.ifCond .eq 10, 3) := by decide +kernel
theorem dX7_layFrames_76 : decode cX7_layFrames 76 = .ok (.aload_n 0, 1) := by decide +kernel
theorem dX7_layFrames_77 : decode cX7_layFrames 77 = .ok (.invokevirtual 114, 3) := by decide +kernel
theorem dX7_layFrames_80 : decode cX7_layFrames 80 = .ok (.goto (-11), 3) := by decide +kernel
theorem dX7_layFrames_83 : decode cX7_layFrames 83 = .ok (.return_, 1) := by decide +kernel
theorem pd_X7_layFrames : (parseMethodDescriptor yX7_layFrames.desc).map (fun d => d.parameters.length) = some 0 := by decide +kernel
def w_X7_layFrames (zz : Nat → Nat) (a0 : Nat) (h : AH) (Q : AH → Prop) : Prop := okP h a0 7 ∧ ∀ h2 : AH, h2 = sfI h a0 12 (0 : Int) → ∃ I_7 : Nat → Int → AH → Prop, (∃ n, I_7 n (0 : Int) h2) ∧ ∀ (n_7 : Nat) (x1_7 : Int) (h_7 : AH), I_7 n_7 x1_7 h_7 → (okA h_7 a0 7 ∧ ∃ b9 : Nat, hfR h_7 a0 6 = some b9 ∧ okI h_7 b9 (0 : Int) ∧ (((haI h_7 b9 (0 : Int)) ≤ x1_7) → okA h_7 a0 7 ∧ w_X7_ofKind zz a0 (0 : Int) (3 : Int) h_7 (fun (r59 : Int) (h59 : AH) => jn (fun  (h_69 : AH) => ∃ I_69 : Nat → AH → Prop, (∃ n, I_69 n  h_69) ∧ ∀ (n_69 : Nat)  (h_69 : AH), I_69 n_69  h_69 → (okA h_69 a0 7 ∧ w_X7_anyGoes zz a0 h_69 (fun (r70 : Int) (h70 : AH) => ((r70 = 0) → Q h70) ∧ ((¬ (r70 = 0)) → okA h70 a0 7 ∧ w_X7_layFrame zz a0 h70 (fun  (h77 : AH) => ∃ m, m < n_69 ∧ I_69 m  h77))))) (fun k_69 : AH → Prop => ((r59 ≤ 0) → k_69  h59) ∧ ((¬ (r59 ≤ 0)) → okA h59 a0 7 ∧ w_X7_layFrame zz a0 h59 (fun  (h66 : AH) => k_69  h66))))) ∧ ((¬ ((haI h_7 b9 (0 : Int)) ≤ x1_7)) → okA h_7 a0 7 ∧ ∃ b18 : Nat, hfR h_7 a0 17 = some b18 ∧ okA h_7 a0 7 ∧ ∃ b23 : Nat, hfR h_7 a0 7 = some b23 ∧ okI h_7 b23 x1_7 ∧ okW h_7 b18 x1_7 ∧ ∀ h28 : AH, h28 = saI h_7 b18 (u1 (haI h_7 b18) x1_7 (haI h_7 b23 x1_7)) → okA h28 a0 7 ∧ ∃ b30 : Nat, hfR h28 a0 16 = some b30 ∧ okW h28 b30 x1_7 ∧ ∀ h35 : AH, h35 = saI h28 b30 (u1 (haI h28 b30) x1_7 (0 : Int)) → okA h35 a0 7 ∧ ∃ b37 : Nat, hfR h35 a0 15 = some b37 ∧ okW h35 b37 x1_7 ∧ ∀ h42 : AH, h42 = saI h35 b37 (u1 (haI h35 b37) x1_7 (0 : Int)) → okA h42 a0 7 ∧ ∃ b44 : Nat, hfR h42 a0 18 = some b44 ∧ okW h42 b44 x1_7 ∧ ∀ h49 : AH, h49 = saI h42 b44 (u1 (haI h42 b44) x1_7 (0 : Int)) → inR (x1_7 + 1) ∧ ∀ x1_50 : Int, x1_50 = (x1_7 + 1) → ∃ m, m < n_7 ∧ I_7 m x1_50 h49))
set_option maxRecDepth 100000 in
set_option maxHeartbeats 4000000 in
theorem met_X7_layFrames (G : GG) (l : Launch) : ∀ (As : List Value) (a0 : Nat) (h : AH) (Q : AH → Prop), As.map ab = List.map some ([vR a0] : List AV) → w_X7_layFrames G.2.2 a0 h Q → Met l yX7_layFrames (.code yX7_layFrames cX7_layFrames 2 none :: xTb) ({ frames := 3, cells := 0, slots := 0, locals := 69 } : Room) (PcA G As h) (QG G (oV Q)) 0 0 (frA G) := by
  intro As a0 h Q hA hw
  refine met_of hA (by decide) (Nat.le_of_ble_eq_true rfl) (fun p e s m args below meth c C hml hr hnm => ?_)
  unfold w_X7_layFrames at hw
  refine aw_aload_n (pc := 0) C dX7_layFrames_0 rfl rfl ?_
  refine aw_iconst (pc := 1) C dX7_layFrames_1 (i := (0 : Int)) (by decide) ?_
  obtain ⟨hp9, hw⟩ := hw
  refine aw_putI (pc := 2) C (ci := 7) (k := 12) ci7 (by decide) tw804 (Or.inl rfl) dX7_layFrames_2 rfl hp9 (aw_nmH (fun h2 e9 => ?_))
  have hw := hw h2 e9
  refine aw_iconst (pc := 5) C dX7_layFrames_5 (i := (0 : Int)) (by decide) ?_
  refine aw_istore_n (pc := 6) C dX7_layFrames_6 rfl (by rw [hml]; decide) ?_
  obtain ⟨I_7, ⟨n9, hi9⟩, hst9⟩ := hw
  have L_7 : ∀ (n_7 : Nat) (x1_7 : Int) (h_7 : AH), I_7 n_7 x1_7 h_7 → AW G p l e ({ frames := 3, cells := 0, slots := 0, locals := 69 } : Room) s m args below meth c 0 0 (MQ below (QG G (oV Q)) args s 0 0 (frA G)) 7 (eOf [(0, vR a0), (1, vI x1_7)]) [] h_7 := by
    intro n_7
    induction n_7 using Nat.strongRecOn with
    | _ n_7 ih_7 =>
    intro x1_7 h_7 hi9
    have hw := hst9 n_7 x1_7 h_7 hi9
    refine aw_iload_n (pc := 7) C dX7_layFrames_7 rfl rfl ?_
    refine aw_aload_n (pc := 8) C dX7_layFrames_8 rfl rfl ?_
    obtain ⟨hp9, b9, hb9, hw⟩ := hw
    refine aw_getR (pc := 9) C (ci := 7) (k := 6) ci7 (by decide) tw798 dX7_layFrames_9 rfl hp9 hb9 ?_
    refine aw_iconst (pc := 12) C dX7_layFrames_12 (i := (0 : Int)) (by decide) ?_
    obtain ⟨⟨k9, hp9⟩, hw⟩ := hw
    refine aw_iald (pc := 13) C dX7_layFrames_13 hp9 ?_
    refine aw_icmp_ge (pc := 14) (tgt := 56) C dX7_layFrames_14 (by decide) (fun hc9 => ?_) (fun hc9 => ?_)
    · have hw := hw.1 hc9
      refine aw_aload_n (pc := 56) C dX7_layFrames_56 rfl rfl ?_
      refine aw_iconst (pc := 57) C dX7_layFrames_57 (i := (0 : Int)) (by decide) ?_
      refine aw_iconst (pc := 58) C dX7_layFrames_58 (i := (3 : Int)) (by decide) ?_
      obtain ⟨hp9, hw⟩ := hw
      refine aw_callV (pc := 59) (as := [vI (0 : Int), vI (3 : Int)]) C ci7 (fun As hA => met_X7_ofKind G l As a0 (0 : Int) (3 : Int) _ _ hA hw) tw953 tw955 (tbp 48 (n := 21) (by decide +kernel)) tw10 tw956 ⟨rfl, rfl⟩ ⟨rfl, by decide, by decide, pd_X7_ofKind⟩ ⟨Nat.le_of_ble_eq_true rfl, Nat.le_of_ble_eq_true rfl⟩ ⟨Nat.zero_le _, Nat.zero_le _⟩ (Nat.le_of_ble_eq_true rfl) dX7_layFrames_59 rfl hp9 (fun v9 h59 hq9 => ?_)
      obtain ⟨r59, rfl, hw⟩ := hq9
      obtain ⟨k_69, hk_69, hw⟩ := jn_out hw
      have J_69 : ∀  (h_69 : AH), k_69  h_69 → AW G p l e ({ frames := 3, cells := 0, slots := 0, locals := 69 } : Room) s m args below meth c 0 0 (MQ below (QG G (oV Q)) args s 0 0 (frA G)) 69 (eOf [(0, vR a0)]) [] h_69 := by
        intro  h_69 hw
        rw [hk_69] at hw
        obtain ⟨I_69, ⟨n9, hi9⟩, hst9⟩ := hw
        have L_69 : ∀ (n_69 : Nat)  (h_69 : AH), I_69 n_69  h_69 → AW G p l e ({ frames := 3, cells := 0, slots := 0, locals := 69 } : Room) s m args below meth c 0 0 (MQ below (QG G (oV Q)) args s 0 0 (frA G)) 69 (eOf [(0, vR a0)]) [] h_69 := by
          intro n_69
          induction n_69 using Nat.strongRecOn with
          | _ n_69 ih_69 =>
          intro  h_69 hi9
          have hw := hst9 n_69  h_69 hi9
          refine aw_aload_n (pc := 69) C dX7_layFrames_69 rfl rfl ?_
          obtain ⟨hp9, hw⟩ := hw
          refine aw_callV (pc := 70) (as := []) C ci7 (fun As hA => met_X7_anyGoes G l As a0 _ _ hA hw) tw981 tw983 (tbp 55 (n := 21) (by decide +kernel)) tw10 tw984 ⟨rfl, rfl⟩ ⟨rfl, by decide, by decide, pd_X7_anyGoes⟩ ⟨Nat.le_of_ble_eq_true rfl, Nat.le_of_ble_eq_true rfl⟩ ⟨Nat.zero_le _, Nat.zero_le _⟩ (Nat.le_of_ble_eq_true rfl) dX7_layFrames_70 rfl hp9 (fun v9 h70 hq9 => ?_)
          obtain ⟨r70, rfl, hw⟩ := hq9
          refine aw_if_eq (pc := 73) (tgt := 83) C dX7_layFrames_73 (by decide) (fun hc9 => ?_) (fun hc9 => ?_)
          · have hw := hw.1 hc9
            exact aw_vret (pc := 83) C hr dX7_layFrames_83 ⟨Nat.le_of_ble_eq_true rfl, Nat.le_of_ble_eq_true rfl⟩ ⟨rfl, hw⟩
          · have hw := hw.2 hc9
            refine aw_aload_n (pc := 76) C dX7_layFrames_76 rfl rfl ?_
            obtain ⟨hp9, hw⟩ := hw
            refine aw_callV (pc := 77) (as := []) C ci7 (fun As hA => met_X7_layFrame G l As a0 _ _ hA hw) tw957 tw959 (tbp 49 (n := 21) (by decide +kernel)) tw10 tw960 ⟨rfl, rfl⟩ ⟨rfl, by decide, by decide, pd_X7_layFrame⟩ ⟨Nat.le_of_ble_eq_true rfl, Nat.le_of_ble_eq_true rfl⟩ ⟨Nat.zero_le _, Nat.zero_le _⟩ (Nat.le_of_ble_eq_true rfl) dX7_layFrames_77 rfl hp9 (fun v9 h77 hq9 => ?_)
            obtain ⟨rfl, hw⟩ := hq9
            refine aw_goto (pc := 80) (tgt := 69) C dX7_layFrames_80 (by decide) ?_
            obtain ⟨m9, hm9, hw⟩ := hw
            refine aw_sub [(0, vR a0)] ⟨rfl, trivial⟩ ?_
            exact ih_69 m9 hm9  _ hw
        refine aw_sub [(0, vR a0)] ⟨rfl, trivial⟩ ?_
        exact L_69 n9  _ hi9
      refine aw_if_le (pc := 62) (tgt := 69) C dX7_layFrames_62 (by decide) (fun hc9 => ?_) (fun hc9 => ?_)
      · have hw := hw.1 hc9
        refine aw_sub [(0, vR a0)] ⟨rfl, trivial⟩ ?_
        exact J_69  _ hw
      · have hw := hw.2 hc9
        refine aw_aload_n (pc := 65) C dX7_layFrames_65 rfl rfl ?_
        obtain ⟨hp9, hw⟩ := hw
        refine aw_callV (pc := 66) (as := []) C ci7 (fun As hA => met_X7_layFrame G l As a0 _ _ hA hw) tw957 tw959 (tbp 49 (n := 21) (by decide +kernel)) tw10 tw960 ⟨rfl, rfl⟩ ⟨rfl, by decide, by decide, pd_X7_layFrame⟩ ⟨Nat.le_of_ble_eq_true rfl, Nat.le_of_ble_eq_true rfl⟩ ⟨Nat.zero_le _, Nat.zero_le _⟩ (Nat.le_of_ble_eq_true rfl) dX7_layFrames_66 rfl hp9 (fun v9 h66 hq9 => ?_)
        obtain ⟨rfl, hw⟩ := hq9
        refine aw_sub [(0, vR a0)] ⟨rfl, trivial⟩ ?_
        exact J_69  _ hw
    · have hw := hw.2 hc9
      refine aw_aload_n (pc := 17) C dX7_layFrames_17 rfl rfl ?_
      obtain ⟨hp9, b18, hb9, hw⟩ := hw
      refine aw_getR (pc := 18) C (ci := 7) (k := 17) ci7 (by decide) tw809 dX7_layFrames_18 rfl hp9 hb9 ?_
      refine aw_iload_n (pc := 21) C dX7_layFrames_21 rfl rfl ?_
      refine aw_aload_n (pc := 22) C dX7_layFrames_22 rfl rfl ?_
      obtain ⟨hp9, b23, hb9, hw⟩ := hw
      refine aw_getR (pc := 23) C (ci := 7) (k := 7) ci7 (by decide) tw799 dX7_layFrames_23 rfl hp9 hb9 ?_
      refine aw_iload_n (pc := 26) C dX7_layFrames_26 rfl rfl ?_
      obtain ⟨⟨k9, hp9⟩, hw⟩ := hw
      refine aw_iald (pc := 27) C dX7_layFrames_27 hp9 ?_
      obtain ⟨⟨k9, hp9⟩, hw⟩ := hw
      refine aw_iast (pc := 28) C dX7_layFrames_28 hp9 (aw_nmH (fun h28 e9 => ?_))
      have hw := hw h28 e9
      refine aw_aload_n (pc := 29) C dX7_layFrames_29 rfl rfl ?_
      obtain ⟨hp9, b30, hb9, hw⟩ := hw
      refine aw_getR (pc := 30) C (ci := 7) (k := 16) ci7 (by decide) tw808 dX7_layFrames_30 rfl hp9 hb9 ?_
      refine aw_iload_n (pc := 33) C dX7_layFrames_33 rfl rfl ?_
      refine aw_iconst (pc := 34) C dX7_layFrames_34 (i := (0 : Int)) (by decide) ?_
      obtain ⟨⟨k9, hp9⟩, hw⟩ := hw
      refine aw_iast (pc := 35) C dX7_layFrames_35 hp9 (aw_nmH (fun h35 e9 => ?_))
      have hw := hw h35 e9
      refine aw_aload_n (pc := 36) C dX7_layFrames_36 rfl rfl ?_
      obtain ⟨hp9, b37, hb9, hw⟩ := hw
      refine aw_getR (pc := 37) C (ci := 7) (k := 15) ci7 (by decide) tw807 dX7_layFrames_37 rfl hp9 hb9 ?_
      refine aw_iload_n (pc := 40) C dX7_layFrames_40 rfl rfl ?_
      refine aw_iconst (pc := 41) C dX7_layFrames_41 (i := (0 : Int)) (by decide) ?_
      obtain ⟨⟨k9, hp9⟩, hw⟩ := hw
      refine aw_iast (pc := 42) C dX7_layFrames_42 hp9 (aw_nmH (fun h42 e9 => ?_))
      have hw := hw h42 e9
      refine aw_aload_n (pc := 43) C dX7_layFrames_43 rfl rfl ?_
      obtain ⟨hp9, b44, hb9, hw⟩ := hw
      refine aw_getR (pc := 44) C (ci := 7) (k := 18) ci7 (by decide) tw810 dX7_layFrames_44 rfl hp9 hb9 ?_
      refine aw_iload_n (pc := 47) C dX7_layFrames_47 rfl rfl ?_
      refine aw_iconst (pc := 48) C dX7_layFrames_48 (i := (0 : Int)) (by decide) ?_
      obtain ⟨⟨k9, hp9⟩, hw⟩ := hw
      refine aw_iast (pc := 49) C dX7_layFrames_49 hp9 (aw_nmH (fun h49 e9 => ?_))
      have hw := hw h49 e9
      obtain ⟨hp9, hw⟩ := hw
      refine aw_iincN (pc := 50) C dX7_layFrames_50 (k := 1) (by decide) rfl (by rw [hml]; decide) hp9 (fun x1_50 e9 => ?_)
      have hw := hw x1_50 e9
      refine aw_goto (pc := 53) (tgt := 7) C dX7_layFrames_53 (by decide) ?_
      obtain ⟨m9, hm9, hw⟩ := hw
      refine aw_sub [(0, vR a0), (1, vI x1_50)] ⟨rfl, rfl, trivial⟩ ?_
      exact ih_7 m9 hm9 _ _ hw
  refine aw_sub [(0, vR a0), (1, vI (0 : Int))] ⟨rfl, rfl, trivial⟩ ?_
  exact L_7 n9 _ _ hi9
theorem dX7_lay_0 : decode cX7_lay 0 = .ok (.aload_n 0, 1) := by decide +kernel
theorem dX7_lay_1 : decode cX7_lay 1 = .ok (.invokevirtual 121, 3) := by decide +kernel
theorem dX7_lay_4 : decode cX7_lay 4 = .ok (.aload_n 0, 1) := by decide +kernel
theorem dX7_lay_5 : decode cX7_lay 5 = .ok (.invokevirtual 124, 3) := by decide +kernel
theorem dX7_lay_8 : decode cX7_lay 8 = .ok (.aload_n 0, 1) := by decide +kernel
theorem dX7_lay_9 : decode cX7_lay 9 = .ok (.iconst 2, 1) := by decide +kernel
theorem dX7_lay_10 : decode cX7_lay 10 = .ok (.invokevirtual 127, 3) := by decide +kernel
theorem dX7_lay_13 : decode cX7_lay 13 = .ok (.aload_n 0, 1) := by decide +kernel
theorem dX7_lay_14 : decode cX7_lay 14 = .ok (.iconst 3, 1) := by decide +kernel
theorem dX7_lay_15 : decode cX7_lay 15 = .ok (.invokevirtual 127, 3) := by decide +kernel
theorem dX7_lay_18 : decode cX7_lay 18 = .ok (.aload_n 0, 1) := by decide +kernel
theorem dX7_lay_19 : decode cX7_lay 19 = .ok (.invokevirtual 131, 3) := by decide +kernel
theorem dX7_lay_22 : decode cX7_lay 22 = .ok (.return_, 1) := by decide +kernel
theorem pd_X7_lay : (parseMethodDescriptor yX7_lay.desc).map (fun d => d.parameters.length) = some 0 := by decide +kernel
def w_X7_lay (zz : Nat → Nat) (a0 : Nat) (h : AH) (Q : AH → Prop) : Prop := okA h a0 7 ∧ w_X7_layLetters zz a0 h (fun  (h1 : AH) => okA h1 a0 7 ∧ w_X7_layCommon zz a0 h1 (fun  (h5 : AH) => okA h5 a0 7 ∧ w_X7_layNearest zz a0 (2 : Int) h5 (fun  (h10 : AH) => okA h10 a0 7 ∧ w_X7_layNearest zz a0 (3 : Int) h10 (fun  (h15 : AH) => okA h15 a0 7 ∧ w_X7_layFrames zz a0 h15 (fun  (h19 : AH) => Q h19)))))
set_option maxRecDepth 100000 in
set_option maxHeartbeats 4000000 in
theorem met_X7_lay (G : GG) (l : Launch) : ∀ (As : List Value) (a0 : Nat) (h : AH) (Q : AH → Prop), As.map ab = List.map some ([vR a0] : List AV) → w_X7_lay G.2.2 a0 h Q → Met l yX7_lay (.code yX7_lay cX7_lay 1 none :: xTb) ({ frames := 4, cells := 0, slots := 0, locals := 97 } : Room) (PcA G As h) (QG G (oV Q)) 0 0 (frA G) := by
  intro As a0 h Q hA hw
  refine met_of hA (by decide) (Nat.le_of_ble_eq_true rfl) (fun p e s m args below meth c C hml hr hnm => ?_)
  unfold w_X7_lay at hw
  refine aw_aload_n (pc := 0) C dX7_lay_0 rfl rfl ?_
  obtain ⟨hp9, hw⟩ := hw
  refine aw_callV (pc := 1) (as := []) C ci7 (fun As hA => met_X7_layLetters G l As a0 _ _ hA hw) tw914 tw916 (tbp 39 (n := 21) (by decide +kernel)) tw10 tw917 ⟨rfl, rfl⟩ ⟨rfl, by decide, by decide, pd_X7_layLetters⟩ ⟨Nat.le_of_ble_eq_true rfl, Nat.le_of_ble_eq_true rfl⟩ ⟨Nat.zero_le _, Nat.zero_le _⟩ (Nat.le_of_ble_eq_true rfl) dX7_lay_1 rfl hp9 (fun v9 h1 hq9 => ?_)
  obtain ⟨rfl, hw⟩ := hq9
  refine aw_aload_n (pc := 4) C dX7_lay_4 rfl rfl ?_
  obtain ⟨hp9, hw⟩ := hw
  refine aw_callV (pc := 5) (as := []) C ci7 (fun As hA => met_X7_layCommon G l As a0 _ _ hA hw) tw918 tw920 (tbp 40 (n := 21) (by decide +kernel)) tw10 tw921 ⟨rfl, rfl⟩ ⟨rfl, by decide, by decide, pd_X7_layCommon⟩ ⟨Nat.le_of_ble_eq_true rfl, Nat.le_of_ble_eq_true rfl⟩ ⟨Nat.zero_le _, Nat.zero_le _⟩ (Nat.le_of_ble_eq_true rfl) dX7_lay_5 rfl hp9 (fun v9 h5 hq9 => ?_)
  obtain ⟨rfl, hw⟩ := hq9
  refine aw_aload_n (pc := 8) C dX7_lay_8 rfl rfl ?_
  refine aw_iconst (pc := 9) C dX7_lay_9 (i := (2 : Int)) (by decide) ?_
  obtain ⟨hp9, hw⟩ := hw
  refine aw_callV (pc := 10) (as := [vI (2 : Int)]) C ci7 (fun As hA => met_X7_layNearest G l As a0 (2 : Int) _ _ hA hw) tw930 tw932 (tbp 43 (n := 21) (by decide +kernel)) tw10 tw933 ⟨rfl, rfl⟩ ⟨rfl, by decide, by decide, pd_X7_layNearest⟩ ⟨Nat.le_of_ble_eq_true rfl, Nat.le_of_ble_eq_true rfl⟩ ⟨Nat.zero_le _, Nat.zero_le _⟩ (Nat.le_of_ble_eq_true rfl) dX7_lay_10 rfl hp9 (fun v9 h10 hq9 => ?_)
  obtain ⟨rfl, hw⟩ := hq9
  refine aw_aload_n (pc := 13) C dX7_lay_13 rfl rfl ?_
  refine aw_iconst (pc := 14) C dX7_lay_14 (i := (3 : Int)) (by decide) ?_
  obtain ⟨hp9, hw⟩ := hw
  refine aw_callV (pc := 15) (as := [vI (3 : Int)]) C ci7 (fun As hA => met_X7_layNearest G l As a0 (3 : Int) _ _ hA hw) tw930 tw932 (tbp 43 (n := 21) (by decide +kernel)) tw10 tw933 ⟨rfl, rfl⟩ ⟨rfl, by decide, by decide, pd_X7_layNearest⟩ ⟨Nat.le_of_ble_eq_true rfl, Nat.le_of_ble_eq_true rfl⟩ ⟨Nat.zero_le _, Nat.zero_le _⟩ (Nat.le_of_ble_eq_true rfl) dX7_lay_15 rfl hp9 (fun v9 h15 hq9 => ?_)
  obtain ⟨rfl, hw⟩ := hq9
  refine aw_aload_n (pc := 18) C dX7_lay_18 rfl rfl ?_
  obtain ⟨hp9, hw⟩ := hw
  refine aw_callV (pc := 19) (as := []) C ci7 (fun As hA => met_X7_layFrames G l As a0 _ _ hA hw) tw949 tw951 (tbp 47 (n := 21) (by decide +kernel)) tw10 tw952 ⟨rfl, rfl⟩ ⟨rfl, by decide, by decide, pd_X7_layFrames⟩ ⟨Nat.le_of_ble_eq_true rfl, Nat.le_of_ble_eq_true rfl⟩ ⟨Nat.zero_le _, Nat.zero_le _⟩ (Nat.le_of_ble_eq_true rfl) dX7_lay_19 rfl hp9 (fun v9 h19 hq9 => ?_)
  obtain ⟨rfl, hw⟩ := hq9
  exact aw_vret (pc := 22) C hr dX7_lay_22 ⟨Nat.le_of_ble_eq_true rfl, Nat.le_of_ble_eq_true rfl⟩ ⟨rfl, hw⟩
theorem dX7_frames_0 : decode cX7_frames 0 = .ok (.aload_n 0, 1) := by decide +kernel
theorem dX7_frames_1 : decode cX7_frames 1 = .ok (.invokevirtual 110, 3) := by decide +kernel
theorem dX7_frames_4 : decode cX7_frames 4 = .ok (.aload_n 0, 1) := by decide +kernel
theorem dX7_frames_5 : decode cX7_frames 5 = .ok (.getfield 101, 3) := by decide +kernel
theorem dX7_frames_8 : decode cX7_frames 8 = .ok (.iadd, 1) := by decide +kernel
theorem dX7_frames_9 : decode cX7_frames 9 = .ok (.aload_n 0, 1) := by decide +kernel
theorem dX7_frames_10 : decode cX7_frames 10 = .ok (.iconst 1, 1) := by decide +kernel
theorem dX7_frames_11 : decode cX7_frames 11 = .ok (.iconst 5, 1) := by decide +kernel
theorem dX7_frames_12 : decode cX7_frames 12 = .ok (.invokevirtual 98, 3) := by decide +kernel
theorem dX7_frames_15 : decode cX7_frames 15 = .ok (.iadd, 1) := by decide +kernel
theorem dX7_frames_16 : decode cX7_frames 16 = .ok (.aload_n 0, 1) := by decide +kernel
theorem dX7_frames_17 : decode cX7_frames 17 = .ok (.bipush 7, 2) := by decide +kernel
theorem dX7_frames_19 : decode cX7_frames 19 = .ok (.invokevirtual 73, 3) := by decide +kernel
theorem dX7_frames_22 : decode cX7_frames 22 = .ok (.iadd, 1) := by decide +kernel
theorem dX7_frames_23 : decode cX7_frames 23 = .ok (.ireturn, 1) := by decide +kernel
theorem pd_X7_frames : (parseMethodDescriptor yX7_frames.desc).map (fun d => d.parameters.length) = some 0 := by decide +kernel
def w_X7_frames (zz : Nat → Nat) (a0 : Nat) (h : AH) (Q : Int → AH → Prop) : Prop := okA h a0 7 ∧ w_X7_firstMoving zz a0 h (fun (r1 : Int) (h1 : AH) => okA h1 a0 7 ∧ inR (r1 + (hfI h1 a0 12)) ∧ okA h1 a0 7 ∧ w_X7_ofKind zz a0 (1 : Int) (5 : Int) h1 (fun (r12 : Int) (h12 : AH) => inR ((r1 + (hfI h1 a0 12)) + r12) ∧ okA h12 a0 7 ∧ w_X7_of zz a0 (7 : Int) h12 (fun (r19 : Int) (h19 : AH) => inR (((r1 + (hfI h1 a0 12)) + r12) + r19) ∧ Q (((r1 + (hfI h1 a0 12)) + r12) + r19) h19)))
set_option maxRecDepth 100000 in
set_option maxHeartbeats 4000000 in
theorem met_X7_frames (G : GG) (l : Launch) : ∀ (As : List Value) (a0 : Nat) (h : AH) (Q : Int → AH → Prop), As.map ab = List.map some ([vR a0] : List AV) → w_X7_frames G.2.2 a0 h Q → Met l yX7_frames (.code yX7_frames cX7_frames 1 (some .int) :: xTb) ({ frames := 2, cells := 0, slots := 0, locals := 44 } : Room) (PcA G As h) (QG G (oI Q)) 0 0 (frA G) := by
  intro As a0 h Q hA hw
  refine met_of hA (by decide) (Nat.le_of_ble_eq_true rfl) (fun p e s m args below meth c C hml hr hnm => ?_)
  unfold w_X7_frames at hw
  refine aw_aload_n (pc := 0) C dX7_frames_0 rfl rfl ?_
  obtain ⟨hp9, hw⟩ := hw
  refine aw_callV (pc := 1) (as := []) C ci7 (fun As hA => met_X7_firstMoving G l As a0 _ _ hA hw) tw977 tw979 (tbp 54 (n := 21) (by decide +kernel)) tw10 tw980 ⟨rfl, rfl⟩ ⟨rfl, by decide, by decide, pd_X7_firstMoving⟩ ⟨Nat.le_of_ble_eq_true rfl, Nat.le_of_ble_eq_true rfl⟩ ⟨Nat.zero_le _, Nat.zero_le _⟩ (Nat.le_of_ble_eq_true rfl) dX7_frames_1 rfl hp9 (fun v9 h1 hq9 => ?_)
  obtain ⟨r1, rfl, hw⟩ := hq9
  refine aw_aload_n (pc := 4) C dX7_frames_4 rfl rfl ?_
  obtain ⟨hp9, hw⟩ := hw
  refine aw_getI (pc := 5) C (ci := 7) (k := 12) ci7 (by decide) tw804 dX7_frames_5 rfl hp9 ?_
  obtain ⟨hp9, hw⟩ := hw
  refine aw_iadd (pc := 8) C dX7_frames_8 hp9 ?_
  refine aw_aload_n (pc := 9) C dX7_frames_9 rfl rfl ?_
  refine aw_iconst (pc := 10) C dX7_frames_10 (i := (1 : Int)) (by decide) ?_
  refine aw_iconst (pc := 11) C dX7_frames_11 (i := (5 : Int)) (by decide) ?_
  obtain ⟨hp9, hw⟩ := hw
  refine aw_callV (pc := 12) (as := [vI (1 : Int), vI (5 : Int)]) C ci7 (fun As hA => met_X7_ofKind G l As a0 (1 : Int) (5 : Int) _ _ hA hw) tw953 tw955 (tbp 48 (n := 21) (by decide +kernel)) tw10 tw956 ⟨rfl, rfl⟩ ⟨rfl, by decide, by decide, pd_X7_ofKind⟩ ⟨Nat.le_of_ble_eq_true rfl, Nat.le_of_ble_eq_true rfl⟩ ⟨Nat.zero_le _, Nat.zero_le _⟩ (Nat.le_of_ble_eq_true rfl) dX7_frames_12 rfl hp9 (fun v9 h12 hq9 => ?_)
  obtain ⟨r12, rfl, hw⟩ := hq9
  obtain ⟨hp9, hw⟩ := hw
  refine aw_iadd (pc := 15) C dX7_frames_15 hp9 ?_
  refine aw_aload_n (pc := 16) C dX7_frames_16 rfl rfl ?_
  refine aw_bipush (pc := 17) C dX7_frames_17 (i := (7 : Int)) (by decide) ?_
  obtain ⟨hp9, hw⟩ := hw
  refine aw_callV (pc := 19) (as := [vI (7 : Int)]) C ci7 (fun As hA => met_X7_of G l As a0 (7 : Int) _ _ hA hw) tw945 tw947 (tbp 46 (n := 21) (by decide +kernel)) tw10 tw948 ⟨rfl, rfl⟩ ⟨rfl, by decide, by decide, pd_X7_of⟩ ⟨Nat.le_of_ble_eq_true rfl, Nat.le_of_ble_eq_true rfl⟩ ⟨Nat.zero_le _, Nat.zero_le _⟩ (Nat.le_of_ble_eq_true rfl) dX7_frames_19 rfl hp9 (fun v9 h19 hq9 => ?_)
  obtain ⟨r19, rfl, hw⟩ := hq9
  obtain ⟨hp9, hw⟩ := hw
  refine aw_iadd (pc := 22) C dX7_frames_22 hp9 ?_
  exact aw_iret (pc := 23) C hr dX7_frames_23 ⟨Nat.le_of_ble_eq_true rfl, Nat.le_of_ble_eq_true rfl⟩ ⟨_, rfl, hw⟩
theorem dX7_goneAt_0 : decode cX7_goneAt 0 = .ok (.iconst 0, 1) := by decide +kernel
theorem dX7_goneAt_1 : decode cX7_goneAt 1 = .ok (.istore_n 2, 1) := by decide +kernel
theorem dX7_goneAt_2 : decode cX7_goneAt 2 = .ok (.iload_n 1, 1) := by decide +kernel
theorem dX7_goneAt_3 : decode cX7_goneAt 3 = .ok (.iconst 1, 1) := by decide +kernel
theorem dX7_goneAt_4 : decode cX7_goneAt 4 = .ok (.iadd, 1) := by decide +kernel
theorem dX7_goneAt_5 : decode cX7_goneAt 5 = .ok (.istore_n 3, 1) := by decide +kernel
theorem dX7_goneAt_6 : decode cX7_goneAt 6 = .ok (.iload_n 3, 1) := by decide +kernel
theorem dX7_goneAt_7 : decode cX7_goneAt 7 = .ok (.aload_n 0, 1) := by decide +kernel
theorem dX7_goneAt_8 : decode cX7_goneAt 8 = .ok (.getfield 19, 3) := by decide +kernel
theorem dX7_goneAt_11 : decode cX7_goneAt 11 = .ok (.iconst 0, 1) := by decide +kernel
theorem dX7_goneAt_12 : decode cX7_goneAt 12 = .ok (.iaload, 1) := by decide +kernel
theorem dX7_goneAt_13 : decode cX7_goneAt 13 = .ok (.if_icmp .ge 27, 3) := by decide +kernel
theorem dX7_goneAt_16 : decode cX7_goneAt 16 = .ok (.iload_n 2, 1) := by decide +kernel
theorem dX7_goneAt_17 : decode cX7_goneAt 17 = .ok (.aload_n 0, 1) := by decide +kernel
theorem dX7_goneAt_18 : decode cX7_goneAt 18 = .ok (.getfield 31, 3) := by decide +kernel
theorem dX7_goneAt_21 : decode cX7_goneAt 21 = .ok (.iload_n 3, 1) := by decide +kernel
theorem dX7_goneAt_22 : decode cX7_goneAt 22 = .ok (.iaload, 1) := by decide +kernel
theorem dX7_goneAt_23 : decode cX7_goneAt 23 = .ok (.iconst 4, 1) := by decide +kernel
theorem dX7_goneAt_24 : decode cX7_goneAt 24 = .ok (.if_icmp .ne 7, 3) := by decide +kernel
theorem dX7_goneAt_27 : decode cX7_goneAt 27 = .ok (.iconst 1, 1) := by decide +kernel
theorem dX7_goneAt_28 : decode cX7_goneAt 28 = .ok (.goto 4, 3) := by decide +kernel
theorem dX7_goneAt_31 : decode cX7_goneAt 31 = .ok (.iconst 0, 1) := by decide +kernel
theorem dX7_goneAt_32 : decode cX7_goneAt 32 = .ok (.iadd, 1) := by decide +kernel
theorem dX7_goneAt_33 : decode cX7_goneAt 33 = .ok (.istore_n 2, 1) := by decide +kernel
theorem dX7_goneAt_34 : decode cX7_goneAt 34 = .ok (.iinc 3 1, 3) := by decide +kernel
theorem dX7_goneAt_37 : decode cX7_goneAt 37 = .ok (.goto (-31), 3) := by decide +kernel
theorem dX7_goneAt_40 : decode cX7_goneAt 40 = .ok (.iconst 1, 1) := by decide +kernel
theorem dX7_goneAt_41 : decode cX7_goneAt 41 = .ok (.aload_n 0, 1) := by decide +kernel
theorem dX7_goneAt_42 : decode cX7_goneAt 42 = .ok (.bipush 6, 2) := by decide +kernel
theorem dX7_goneAt_44 : decode cX7_goneAt 44 = .ok (.invokevirtual 73, 3) := by decide +kernel
theorem dX7_goneAt_47 : decode cX7_goneAt 47 = .ok (.iadd, 1) := by decide +kernel
theorem dX7_goneAt_48 : decode cX7_goneAt 48 = .ok (.iload_n 2, 1) := by decide +kernel
theorem dX7_goneAt_49 : decode cX7_goneAt 49 = .ok (.iadd, 1) := by decide +kernel
theorem dX7_goneAt_50 : decode cX7_goneAt 50 = .ok (.ireturn, 1) := by decide +kernel
theorem pd_X7_goneAt : (parseMethodDescriptor yX7_goneAt.desc).map (fun d => d.parameters.length) = some 1 := by decide +kernel
def w_X7_goneAt (zz : Nat → Nat) (a0 : Nat) (a1 : Int) (h : AH) (Q : Int → AH → Prop) : Prop := inR (a1 + (1 : Int)) ∧ ∀ x3_5 : Int, x3_5 = (a1 + (1 : Int)) → ∃ I_6 : Nat → Int → Int → AH → Prop, (∃ n, I_6 n (0 : Int) x3_5 h) ∧ ∀ (n_6 : Nat) (x2_6 : Int) (x3_6 : Int) (h_6 : AH), I_6 n_6 x2_6 x3_6 h_6 → (okA h_6 a0 7 ∧ ∃ b8 : Nat, hfR h_6 a0 6 = some b8 ∧ okI h_6 b8 (0 : Int) ∧ (((haI h_6 b8 (0 : Int)) ≤ x3_6) → okA h_6 a0 7 ∧ w_X7_of zz a0 (6 : Int) h_6 (fun (r44 : Int) (h44 : AH) => inR ((1 : Int) + r44) ∧ inR (((1 : Int) + r44) + x2_6) ∧ Q (((1 : Int) + r44) + x2_6) h44)) ∧ ((¬ ((haI h_6 b8 (0 : Int)) ≤ x3_6)) → okA h_6 a0 7 ∧ ∃ b18 : Nat, hfR h_6 a0 10 = some b18 ∧ okI h_6 b18 x3_6 ∧ jn (fun (t1_32 : Int) (h_32 : AH) => inR (x2_6 + t1_32) ∧ ∀ x2_33 : Int, x2_33 = (x2_6 + t1_32) → inR (x3_6 + 1) ∧ ∀ x3_34 : Int, x3_34 = (x3_6 + 1) → ∃ m, m < n_6 ∧ I_6 m x2_33 x3_34 h_32) (fun k_32 : Int → AH → Prop => ((¬ (haI h_6 b18 x3_6) = (4 : Int)) → k_32 (0 : Int) h_6) ∧ (((haI h_6 b18 x3_6) = (4 : Int)) → k_32 (1 : Int) h_6))))
set_option maxRecDepth 100000 in
set_option maxHeartbeats 4000000 in
theorem met_X7_goneAt (G : GG) (l : Launch) : ∀ (As : List Value) (a0 : Nat) (a1 : Int) (h : AH) (Q : Int → AH → Prop), As.map ab = List.map some ([vR a0, vI a1] : List AV) → w_X7_goneAt G.2.2 a0 a1 h Q → Met l yX7_goneAt (.code yX7_goneAt cX7_goneAt 4 (some .int) :: xTb) ({ frames := 1, cells := 0, slots := 0, locals := 21 } : Room) (PcA G As h) (QG G (oI Q)) 0 0 (frA G) := by
  intro As a0 a1 h Q hA hw
  refine met_of hA (by decide) (Nat.le_of_ble_eq_true rfl) (fun p e s m args below meth c C hml hr hnm => ?_)
  unfold w_X7_goneAt at hw
  refine aw_iconst (pc := 0) C dX7_goneAt_0 (i := (0 : Int)) (by decide) ?_
  refine aw_istore_n (pc := 1) C dX7_goneAt_1 rfl (by rw [hml]; decide) ?_
  refine aw_iload_n (pc := 2) C dX7_goneAt_2 rfl rfl ?_
  refine aw_iconst (pc := 3) C dX7_goneAt_3 (i := (1 : Int)) (by decide) ?_
  obtain ⟨hp9, hw⟩ := hw
  refine aw_iadd (pc := 4) C dX7_goneAt_4 hp9 ?_
  refine aw_nmI (fun x3_5 e9 => ?_)
  have hw := hw x3_5 e9
  refine aw_istore_n (pc := 5) C dX7_goneAt_5 rfl (by rw [hml]; decide) ?_
  obtain ⟨I_6, ⟨n9, hi9⟩, hst9⟩ := hw
  have L_6 : ∀ (n_6 : Nat) (x2_6 : Int) (x3_6 : Int) (h_6 : AH), I_6 n_6 x2_6 x3_6 h_6 → AW G p l e ({ frames := 1, cells := 0, slots := 0, locals := 21 } : Room) s m args below meth c 0 0 (MQ below (QG G (oI Q)) args s 0 0 (frA G)) 6 (eOf [(0, vR a0), (2, vI x2_6), (3, vI x3_6)]) [] h_6 := by
    intro n_6
    induction n_6 using Nat.strongRecOn with
    | _ n_6 ih_6 =>
    intro x2_6 x3_6 h_6 hi9
    have hw := hst9 n_6 x2_6 x3_6 h_6 hi9
    refine aw_iload_n (pc := 6) C dX7_goneAt_6 rfl rfl ?_
    refine aw_aload_n (pc := 7) C dX7_goneAt_7 rfl rfl ?_
    obtain ⟨hp9, b8, hb9, hw⟩ := hw
    refine aw_getR (pc := 8) C (ci := 7) (k := 6) ci7 (by decide) tw798 dX7_goneAt_8 rfl hp9 hb9 ?_
    refine aw_iconst (pc := 11) C dX7_goneAt_11 (i := (0 : Int)) (by decide) ?_
    obtain ⟨⟨k9, hp9⟩, hw⟩ := hw
    refine aw_iald (pc := 12) C dX7_goneAt_12 hp9 ?_
    refine aw_icmp_ge (pc := 13) (tgt := 40) C dX7_goneAt_13 (by decide) (fun hc9 => ?_) (fun hc9 => ?_)
    · have hw := hw.1 hc9
      refine aw_iconst (pc := 40) C dX7_goneAt_40 (i := (1 : Int)) (by decide) ?_
      refine aw_aload_n (pc := 41) C dX7_goneAt_41 rfl rfl ?_
      refine aw_bipush (pc := 42) C dX7_goneAt_42 (i := (6 : Int)) (by decide) ?_
      obtain ⟨hp9, hw⟩ := hw
      refine aw_callV (pc := 44) (as := [vI (6 : Int)]) C ci7 (fun As hA => met_X7_of G l As a0 (6 : Int) _ _ hA hw) tw945 tw947 (tbp 46 (n := 21) (by decide +kernel)) tw10 tw948 ⟨rfl, rfl⟩ ⟨rfl, by decide, by decide, pd_X7_of⟩ ⟨Nat.le_of_ble_eq_true rfl, Nat.le_of_ble_eq_true rfl⟩ ⟨Nat.zero_le _, Nat.zero_le _⟩ (Nat.le_of_ble_eq_true rfl) dX7_goneAt_44 rfl hp9 (fun v9 h44 hq9 => ?_)
      obtain ⟨r44, rfl, hw⟩ := hq9
      obtain ⟨hp9, hw⟩ := hw
      refine aw_iadd (pc := 47) C dX7_goneAt_47 hp9 ?_
      refine aw_iload_n (pc := 48) C dX7_goneAt_48 rfl rfl ?_
      obtain ⟨hp9, hw⟩ := hw
      refine aw_iadd (pc := 49) C dX7_goneAt_49 hp9 ?_
      exact aw_iret (pc := 50) C hr dX7_goneAt_50 ⟨Nat.le_of_ble_eq_true rfl, Nat.le_of_ble_eq_true rfl⟩ ⟨_, rfl, hw⟩
    · have hw := hw.2 hc9
      refine aw_iload_n (pc := 16) C dX7_goneAt_16 rfl rfl ?_
      refine aw_aload_n (pc := 17) C dX7_goneAt_17 rfl rfl ?_
      obtain ⟨hp9, b18, hb9, hw⟩ := hw
      refine aw_getR (pc := 18) C (ci := 7) (k := 10) ci7 (by decide) tw802 dX7_goneAt_18 rfl hp9 hb9 ?_
      refine aw_iload_n (pc := 21) C dX7_goneAt_21 rfl rfl ?_
      obtain ⟨⟨k9, hp9⟩, hw⟩ := hw
      refine aw_iald (pc := 22) C dX7_goneAt_22 hp9 ?_
      refine aw_iconst (pc := 23) C dX7_goneAt_23 (i := (4 : Int)) (by decide) ?_
      obtain ⟨k_32, hk_32, hw⟩ := jn_out hw
      have J_32 : ∀ (t1_32 : Int) (h_32 : AH), k_32 t1_32 h_32 → AW G p l e ({ frames := 1, cells := 0, slots := 0, locals := 21 } : Room) s m args below meth c 0 0 (MQ below (QG G (oI Q)) args s 0 0 (frA G)) 32 (eOf [(0, vR a0), (3, vI x3_6)]) [vI t1_32, vI x2_6] h_32 := by
        intro t1_32 h_32 hw
        rw [hk_32] at hw
        obtain ⟨hp9, hw⟩ := hw
        refine aw_iadd (pc := 32) C dX7_goneAt_32 hp9 ?_
        refine aw_nmI (fun x2_33 e9 => ?_)
        have hw := hw x2_33 e9
        refine aw_istore_n (pc := 33) C dX7_goneAt_33 rfl (by rw [hml]; decide) ?_
        obtain ⟨hp9, hw⟩ := hw
        refine aw_iincN (pc := 34) C dX7_goneAt_34 (k := 1) (by decide) rfl (by rw [hml]; decide) hp9 (fun x3_34 e9 => ?_)
        have hw := hw x3_34 e9
        refine aw_goto (pc := 37) (tgt := 6) C dX7_goneAt_37 (by decide) ?_
        obtain ⟨m9, hm9, hw⟩ := hw
        refine aw_sub [(0, vR a0), (2, vI x2_33), (3, vI x3_34)] ⟨rfl, rfl, rfl, trivial⟩ ?_
        exact ih_6 m9 hm9 _ _ _ hw
      refine aw_icmp_ne (pc := 24) (tgt := 31) C dX7_goneAt_24 (by decide) (fun hc9 => ?_) (fun hc9 => ?_)
      · have hw := hw.1 hc9
        refine aw_iconst (pc := 31) C dX7_goneAt_31 (i := (0 : Int)) (by decide) ?_
        refine aw_sub [(0, vR a0), (3, vI x3_6)] ⟨rfl, rfl, trivial⟩ ?_
        exact J_32 _ _ hw
      · have hw := hw.2 hc9
        refine aw_iconst (pc := 27) C dX7_goneAt_27 (i := (1 : Int)) (by decide) ?_
        refine aw_goto (pc := 28) (tgt := 32) C dX7_goneAt_28 (by decide) ?_
        refine aw_sub [(0, vR a0), (3, vI x3_6)] ⟨rfl, rfl, trivial⟩ ?_
        exact J_32 _ _ hw
  refine aw_sub [(0, vR a0), (2, vI (0 : Int)), (3, vI x3_5)] ⟨rfl, rfl, rfl, trivial⟩ ?_
  exact L_6 n9 _ _ _ hi9
theorem dX7_placeIn_0 : decode cX7_placeIn 0 = .ok (.aload_n 0, 1) := by decide +kernel
theorem dX7_placeIn_1 : decode cX7_placeIn 1 = .ok (.getfield 31, 3) := by decide +kernel
theorem dX7_placeIn_4 : decode cX7_placeIn 4 = .ok (.iload_n 2, 1) := by decide +kernel
theorem dX7_placeIn_5 : decode cX7_placeIn 5 = .ok (.iaload, 1) := by decide +kernel
theorem dX7_placeIn_6 : decode cX7_placeIn 6 = .ok (.iconst 4, 1) := by decide +kernel
theorem dX7_placeIn_7 : decode cX7_placeIn 7 = .ok (.if_icmp .ne 23, 3) := by decide +kernel
theorem dX7_placeIn_10 : decode cX7_placeIn 10 = .ok (.iload_n 1, 1) := by decide +kernel
theorem dX7_placeIn_11 : decode cX7_placeIn 11 = .ok (.aload_n 0, 1) := by decide +kernel
theorem dX7_placeIn_12 : decode cX7_placeIn 12 = .ok (.iload_n 2, 1) := by decide +kernel
theorem dX7_placeIn_13 : decode cX7_placeIn 13 = .ok (.invokevirtual 134, 3) := by decide +kernel
theorem dX7_placeIn_16 : decode cX7_placeIn 16 = .ok (.if_icmp .ge 12, 3) := by decide +kernel
theorem dX7_placeIn_19 : decode cX7_placeIn 19 = .ok (.aload_n 0, 1) := by decide +kernel
theorem dX7_placeIn_20 : decode cX7_placeIn 20 = .ok (.getfield 22, 3) := by decide +kernel
theorem dX7_placeIn_23 : decode cX7_placeIn 23 = .ok (.iload_n 2, 1) := by decide +kernel
theorem dX7_placeIn_24 : decode cX7_placeIn 24 = .ok (.iaload, 1) := by decide +kernel
theorem dX7_placeIn_25 : decode cX7_placeIn 25 = .ok (.goto 4, 3) := by decide +kernel
theorem dX7_placeIn_28 : decode cX7_placeIn 28 = .ok (.iconst (-1), 1) := by decide +kernel
theorem dX7_placeIn_29 : decode cX7_placeIn 29 = .ok (.ireturn, 1) := by decide +kernel
theorem dX7_placeIn_30 : decode cX7_placeIn 30 = .ok (.iload_n 1, 1) := by decide +kernel
theorem dX7_placeIn_31 : decode cX7_placeIn 31 = .ok (.aload_n 0, 1) := by decide +kernel
theorem dX7_placeIn_32 : decode cX7_placeIn 32 = .ok (.invokevirtual 110, 3) := by decide +kernel
theorem dX7_placeIn_35 : decode cX7_placeIn 35 = .ok (.isub, 1) := by decide +kernel
theorem dX7_placeIn_36 : decode cX7_placeIn 36 = .ok (.istore_n 3, 1) := by decide +kernel
theorem dX7_placeIn_37 : decode cX7_placeIn 37 = .ok (.iload_n 3, 1) := by decide +kernel
theorem dX7_placeIn_38 : decode cX7_placeIn 38 = .ok (.ifCond .ge 12, 3) := by decide +kernel
theorem dX7_placeIn_41 : decode cX7_placeIn 41 = .ok (.aload_n 0, 1) := by decide +kernel
theorem dX7_placeIn_42 : decode cX7_placeIn 42 = .ok (.getfield 22, 3) := by decide +kernel
theorem dX7_placeIn_45 : decode cX7_placeIn 45 = .ok (.iload_n 2, 1) := by decide +kernel
theorem dX7_placeIn_46 : decode cX7_placeIn 46 = .ok (.iaload, 1) := by decide +kernel
theorem dX7_placeIn_47 : decode cX7_placeIn 47 = .ok (.goto 30, 3) := by decide +kernel
theorem dX7_placeIn_50 : decode cX7_placeIn 50 = .ok (.iload_n 3, 1) := by decide +kernel
theorem dX7_placeIn_51 : decode cX7_placeIn 51 = .ok (.aload_n 0, 1) := by decide +kernel
theorem dX7_placeIn_52 : decode cX7_placeIn 52 = .ok (.getfield 101, 3) := by decide +kernel
theorem dX7_placeIn_55 : decode cX7_placeIn 55 = .ok (.if_icmp .ge 17, 3) := by decide +kernel
theorem dX7_placeIn_58 : decode cX7_placeIn 58 = .ok (.aload_n 0, 1) := by decide +kernel
theorem dX7_placeIn_59 : decode cX7_placeIn 59 = .ok (.getfield 37, 3) := by decide +kernel
theorem dX7_placeIn_62 : decode cX7_placeIn 62 = .ok (.bipush 40, 2) := by decide +kernel
theorem dX7_placeIn_64 : decode cX7_placeIn 64 = .ok (.iload_n 3, 1) := by decide +kernel
theorem dX7_placeIn_65 : decode cX7_placeIn 65 = .ok (.imul, 1) := by decide +kernel
theorem dX7_placeIn_66 : decode cX7_placeIn 66 = .ok (.iload_n 2, 1) := by decide +kernel
theorem dX7_placeIn_67 : decode cX7_placeIn 67 = .ok (.iadd, 1) := by decide +kernel
theorem dX7_placeIn_68 : decode cX7_placeIn 68 = .ok (.iaload, 1) := by decide +kernel
theorem dX7_placeIn_69 : decode cX7_placeIn 69 = .ok (.goto 8, 3) := by decide +kernel
theorem dX7_placeIn_72 : decode cX7_placeIn 72 = .ok (.aload_n 0, 1) := by decide +kernel
theorem dX7_placeIn_73 : decode cX7_placeIn 73 = .ok (.iload_n 2, 1) := by decide +kernel
theorem dX7_placeIn_74 : decode cX7_placeIn 74 = .ok (.invokevirtual 91, 3) := by decide +kernel
theorem dX7_placeIn_77 : decode cX7_placeIn 77 = .ok (.ireturn, 1) := by decide +kernel
theorem pd_X7_placeIn : (parseMethodDescriptor yX7_placeIn.desc).map (fun d => d.parameters.length) = some 2 := by decide +kernel
def w_X7_placeIn (zz : Nat → Nat) (a0 : Nat) (a1 : Int) (a2 : Int) (h : AH) (Q : Int → AH → Prop) : Prop := okA h a0 7 ∧ ∃ b1 : Nat, hfR h a0 10 = some b1 ∧ okI h b1 a2 ∧ ((¬ (haI h b1 a2) = (4 : Int)) → okA h a0 7 ∧ w_X7_firstMoving zz a0 h (fun (r32 : Int) (h32 : AH) => inR (a1 - r32) ∧ ∀ x3_36 : Int, x3_36 = (a1 - r32) → jn (fun (t0_77 : Int) (h_77 : AH) => Q t0_77 h_77) (fun k_77 : Int → AH → Prop => ((0 ≤ x3_36) → okA h32 a0 7 ∧ (((hfI h32 a0 12) ≤ x3_36) → okA h32 a0 7 ∧ w_X7_goal zz a0 a2 h32 (fun (r74 : Int) (h74 : AH) => k_77 r74 h74)) ∧ ((¬ ((hfI h32 a0 12) ≤ x3_36)) → okA h32 a0 7 ∧ ∃ b59 : Nat, hfR h32 a0 13 = some b59 ∧ inR ((40 : Int) * x3_36) ∧ inR (((40 : Int) * x3_36) + a2) ∧ okI h32 b59 (((40 : Int) * x3_36) + a2) ∧ k_77 (haI h32 b59 (((40 : Int) * x3_36) + a2)) h32)) ∧ ((¬ (0 ≤ x3_36)) → okA h32 a0 7 ∧ ∃ b42 : Nat, hfR h32 a0 7 = some b42 ∧ okI h32 b42 a2 ∧ k_77 (haI h32 b42 a2) h32)))) ∧ (((haI h b1 a2) = (4 : Int)) → okA h a0 7 ∧ w_X7_goneAt zz a0 a2 h (fun (r13 : Int) (h13 : AH) => jn (fun (t0_29 : Int) (h_29 : AH) => Q t0_29 h_29) (fun k_29 : Int → AH → Prop => ((r13 ≤ a1) → k_29 (-1 : Int) h13) ∧ ((¬ (r13 ≤ a1)) → okA h13 a0 7 ∧ ∃ b20 : Nat, hfR h13 a0 7 = some b20 ∧ okI h13 b20 a2 ∧ k_29 (haI h13 b20 a2) h13))))
set_option maxRecDepth 100000 in
set_option maxHeartbeats 4000000 in
theorem met_X7_placeIn (G : GG) (l : Launch) : ∀ (As : List Value) (a0 : Nat) (a1 : Int) (a2 : Int) (h : AH) (Q : Int → AH → Prop), As.map ab = List.map some ([vR a0, vI a1, vI a2] : List AV) → w_X7_placeIn G.2.2 a0 a1 a2 h Q → Met l yX7_placeIn (.code yX7_placeIn cX7_placeIn 4 (some .int) :: xTb) ({ frames := 2, cells := 0, slots := 0, locals := 44 } : Room) (PcA G As h) (QG G (oI Q)) 0 0 (frA G) := by
  intro As a0 a1 a2 h Q hA hw
  refine met_of hA (by decide) (Nat.le_of_ble_eq_true rfl) (fun p e s m args below meth c C hml hr hnm => ?_)
  unfold w_X7_placeIn at hw
  refine aw_aload_n (pc := 0) C dX7_placeIn_0 rfl rfl ?_
  obtain ⟨hp9, b1, hb9, hw⟩ := hw
  refine aw_getR (pc := 1) C (ci := 7) (k := 10) ci7 (by decide) tw802 dX7_placeIn_1 rfl hp9 hb9 ?_
  refine aw_iload_n (pc := 4) C dX7_placeIn_4 rfl rfl ?_
  obtain ⟨⟨k9, hp9⟩, hw⟩ := hw
  refine aw_iald (pc := 5) C dX7_placeIn_5 hp9 ?_
  refine aw_iconst (pc := 6) C dX7_placeIn_6 (i := (4 : Int)) (by decide) ?_
  refine aw_icmp_ne (pc := 7) (tgt := 30) C dX7_placeIn_7 (by decide) (fun hc9 => ?_) (fun hc9 => ?_)
  · have hw := hw.1 hc9
    refine aw_iload_n (pc := 30) C dX7_placeIn_30 rfl rfl ?_
    refine aw_aload_n (pc := 31) C dX7_placeIn_31 rfl rfl ?_
    obtain ⟨hp9, hw⟩ := hw
    refine aw_callV (pc := 32) (as := []) C ci7 (fun As hA => met_X7_firstMoving G l As a0 _ _ hA hw) tw977 tw979 (tbp 54 (n := 21) (by decide +kernel)) tw10 tw980 ⟨rfl, rfl⟩ ⟨rfl, by decide, by decide, pd_X7_firstMoving⟩ ⟨Nat.le_of_ble_eq_true rfl, Nat.le_of_ble_eq_true rfl⟩ ⟨Nat.zero_le _, Nat.zero_le _⟩ (Nat.le_of_ble_eq_true rfl) dX7_placeIn_32 rfl hp9 (fun v9 h32 hq9 => ?_)
    obtain ⟨r32, rfl, hw⟩ := hq9
    obtain ⟨hp9, hw⟩ := hw
    refine aw_isub (pc := 35) C dX7_placeIn_35 hp9 ?_
    refine aw_nmI (fun x3_36 e9 => ?_)
    have hw := hw x3_36 e9
    refine aw_istore_n (pc := 36) C dX7_placeIn_36 rfl (by rw [hml]; decide) ?_
    refine aw_iload_n (pc := 37) C dX7_placeIn_37 rfl rfl ?_
    obtain ⟨k_77, hk_77, hw⟩ := jn_out hw
    have J_77 : ∀ (t0_77 : Int) (h_77 : AH), k_77 t0_77 h_77 → AW G p l e ({ frames := 2, cells := 0, slots := 0, locals := 44 } : Room) s m args below meth c 0 0 (MQ below (QG G (oI Q)) args s 0 0 (frA G)) 77 (eOf []) [vI t0_77] h_77 := by
      intro t0_77 h_77 hw
      rw [hk_77] at hw
      exact aw_iret (pc := 77) C hr dX7_placeIn_77 ⟨Nat.le_of_ble_eq_true rfl, Nat.le_of_ble_eq_true rfl⟩ ⟨_, rfl, hw⟩
    refine aw_if_ge (pc := 38) (tgt := 50) C dX7_placeIn_38 (by decide) (fun hc9 => ?_) (fun hc9 => ?_)
    · have hw := hw.1 hc9
      refine aw_iload_n (pc := 50) C dX7_placeIn_50 rfl rfl ?_
      refine aw_aload_n (pc := 51) C dX7_placeIn_51 rfl rfl ?_
      obtain ⟨hp9, hw⟩ := hw
      refine aw_getI (pc := 52) C (ci := 7) (k := 12) ci7 (by decide) tw804 dX7_placeIn_52 rfl hp9 ?_
      refine aw_icmp_ge (pc := 55) (tgt := 72) C dX7_placeIn_55 (by decide) (fun hc9 => ?_) (fun hc9 => ?_)
      · have hw := hw.1 hc9
        refine aw_aload_n (pc := 72) C dX7_placeIn_72 rfl rfl ?_
        refine aw_iload_n (pc := 73) C dX7_placeIn_73 rfl rfl ?_
        obtain ⟨hp9, hw⟩ := hw
        refine aw_callV (pc := 74) (as := [vI a2]) C ci7 (fun As hA => met_X7_goal G l As a0 a2 _ _ hA hw) tw965 tw967 (tbp 51 (n := 21) (by decide +kernel)) tw10 tw968 ⟨rfl, rfl⟩ ⟨rfl, by decide, by decide, pd_X7_goal⟩ ⟨Nat.le_of_ble_eq_true rfl, Nat.le_of_ble_eq_true rfl⟩ ⟨Nat.zero_le _, Nat.zero_le _⟩ (Nat.le_of_ble_eq_true rfl) dX7_placeIn_74 rfl hp9 (fun v9 h74 hq9 => ?_)
        obtain ⟨r74, rfl, hw⟩ := hq9
        refine aw_sub [] trivial ?_
        exact J_77 _ _ hw
      · have hw := hw.2 hc9
        refine aw_aload_n (pc := 58) C dX7_placeIn_58 rfl rfl ?_
        obtain ⟨hp9, b59, hb9, hw⟩ := hw
        refine aw_getR (pc := 59) C (ci := 7) (k := 13) ci7 (by decide) tw805 dX7_placeIn_59 rfl hp9 hb9 ?_
        refine aw_bipush (pc := 62) C dX7_placeIn_62 (i := (40 : Int)) (by decide) ?_
        refine aw_iload_n (pc := 64) C dX7_placeIn_64 rfl rfl ?_
        obtain ⟨hp9, hw⟩ := hw
        refine aw_imul (pc := 65) C dX7_placeIn_65 hp9 ?_
        refine aw_iload_n (pc := 66) C dX7_placeIn_66 rfl rfl ?_
        obtain ⟨hp9, hw⟩ := hw
        refine aw_iadd (pc := 67) C dX7_placeIn_67 hp9 ?_
        obtain ⟨⟨k9, hp9⟩, hw⟩ := hw
        refine aw_iald (pc := 68) C dX7_placeIn_68 hp9 ?_
        refine aw_goto (pc := 69) (tgt := 77) C dX7_placeIn_69 (by decide) ?_
        refine aw_sub [] trivial ?_
        exact J_77 _ _ hw
    · have hw := hw.2 hc9
      refine aw_aload_n (pc := 41) C dX7_placeIn_41 rfl rfl ?_
      obtain ⟨hp9, b42, hb9, hw⟩ := hw
      refine aw_getR (pc := 42) C (ci := 7) (k := 7) ci7 (by decide) tw799 dX7_placeIn_42 rfl hp9 hb9 ?_
      refine aw_iload_n (pc := 45) C dX7_placeIn_45 rfl rfl ?_
      obtain ⟨⟨k9, hp9⟩, hw⟩ := hw
      refine aw_iald (pc := 46) C dX7_placeIn_46 hp9 ?_
      refine aw_goto (pc := 47) (tgt := 77) C dX7_placeIn_47 (by decide) ?_
      refine aw_sub [] trivial ?_
      exact J_77 _ _ hw
  · have hw := hw.2 hc9
    refine aw_iload_n (pc := 10) C dX7_placeIn_10 rfl rfl ?_
    refine aw_aload_n (pc := 11) C dX7_placeIn_11 rfl rfl ?_
    refine aw_iload_n (pc := 12) C dX7_placeIn_12 rfl rfl ?_
    obtain ⟨hp9, hw⟩ := hw
    refine aw_callV (pc := 13) (as := [vI a2]) C ci7 (fun As hA => met_X7_goneAt G l As a0 a2 _ _ hA hw) tw1029 tw1031 (tbp 61 (n := 21) (by decide +kernel)) tw10 tw1032 ⟨rfl, rfl⟩ ⟨rfl, by decide, by decide, pd_X7_goneAt⟩ ⟨Nat.le_of_ble_eq_true rfl, Nat.le_of_ble_eq_true rfl⟩ ⟨Nat.zero_le _, Nat.zero_le _⟩ (Nat.le_of_ble_eq_true rfl) dX7_placeIn_13 rfl hp9 (fun v9 h13 hq9 => ?_)
    obtain ⟨r13, rfl, hw⟩ := hq9
    obtain ⟨k_29, hk_29, hw⟩ := jn_out hw
    have J_29 : ∀ (t0_29 : Int) (h_29 : AH), k_29 t0_29 h_29 → AW G p l e ({ frames := 2, cells := 0, slots := 0, locals := 44 } : Room) s m args below meth c 0 0 (MQ below (QG G (oI Q)) args s 0 0 (frA G)) 29 (eOf []) [vI t0_29] h_29 := by
      intro t0_29 h_29 hw
      rw [hk_29] at hw
      exact aw_iret (pc := 29) C hr dX7_placeIn_29 ⟨Nat.le_of_ble_eq_true rfl, Nat.le_of_ble_eq_true rfl⟩ ⟨_, rfl, hw⟩
    refine aw_icmp_ge (pc := 16) (tgt := 28) C dX7_placeIn_16 (by decide) (fun hc9 => ?_) (fun hc9 => ?_)
    · have hw := hw.1 hc9
      refine aw_iconst (pc := 28) C dX7_placeIn_28 (i := (-1 : Int)) (by decide) ?_
      refine aw_sub [] trivial ?_
      exact J_29 _ _ hw
    · have hw := hw.2 hc9
      refine aw_aload_n (pc := 19) C dX7_placeIn_19 rfl rfl ?_
      obtain ⟨hp9, b20, hb9, hw⟩ := hw
      refine aw_getR (pc := 20) C (ci := 7) (k := 7) ci7 (by decide) tw799 dX7_placeIn_20 rfl hp9 hb9 ?_
      refine aw_iload_n (pc := 23) C dX7_placeIn_23 rfl rfl ?_
      obtain ⟨⟨k9, hp9⟩, hw⟩ := hw
      refine aw_iald (pc := 24) C dX7_placeIn_24 hp9 ?_
      refine aw_goto (pc := 25) (tgt := 29) C dX7_placeIn_25 (by decide) ?_
      refine aw_sub [] trivial ?_
      exact J_29 _ _ hw
theorem dX7_shownOf_0 : decode cX7_shownOf 0 = .ok (.aload_n 0, 1) := by decide +kernel
theorem dX7_shownOf_1 : decode cX7_shownOf 1 = .ok (.getfield 31, 3) := by decide +kernel
theorem dX7_shownOf_4 : decode cX7_shownOf 4 = .ok (.iload_n 2, 1) := by decide +kernel
theorem dX7_shownOf_5 : decode cX7_shownOf 5 = .ok (.iaload, 1) := by decide +kernel
theorem dX7_shownOf_6 : decode cX7_shownOf 6 = .ok (.iconst 3, 1) := by decide +kernel
theorem dX7_shownOf_7 : decode cX7_shownOf 7 = .ok (.if_icmp .ne 29, 3) := by decide +kernel
theorem dX7_shownOf_10 : decode cX7_shownOf 10 = .ok (.iload_n 1, 1) := by decide +kernel
theorem dX7_shownOf_11 : decode cX7_shownOf 11 = .ok (.aload_n 0, 1) := by decide +kernel
theorem dX7_shownOf_12 : decode cX7_shownOf 12 = .ok (.invokevirtual 110, 3) := by decide +kernel
theorem dX7_shownOf_15 : decode cX7_shownOf 15 = .ok (.if_icmp .lt 21, 3) := by decide +kernel
theorem dX7_shownOf_18 : decode cX7_shownOf 18 = .ok (.aload_n 0, 1) := by decide +kernel
theorem dX7_shownOf_19 : decode cX7_shownOf 19 = .ok (.iload_n 1, 1) := by decide +kernel
theorem dX7_shownOf_20 : decode cX7_shownOf 20 = .ok (.iload_n 2, 1) := by decide +kernel
theorem dX7_shownOf_21 : decode cX7_shownOf 21 = .ok (.invokevirtual 137, 3) := by decide +kernel
theorem dX7_shownOf_24 : decode cX7_shownOf 24 = .ok (.aload_n 0, 1) := by decide +kernel
theorem dX7_shownOf_25 : decode cX7_shownOf 25 = .ok (.iload_n 2, 1) := by decide +kernel
theorem dX7_shownOf_26 : decode cX7_shownOf 26 = .ok (.invokevirtual 91, 3) := by decide +kernel
theorem dX7_shownOf_29 : decode cX7_shownOf 29 = .ok (.if_icmp .ne 7, 3) := by decide +kernel
theorem dX7_shownOf_32 : decode cX7_shownOf 32 = .ok (.iconst 1, 1) := by decide +kernel
theorem dX7_shownOf_33 : decode cX7_shownOf 33 = .ok (.goto 4, 3) := by decide +kernel
theorem dX7_shownOf_36 : decode cX7_shownOf 36 = .ok (.iconst 0, 1) := by decide +kernel
theorem dX7_shownOf_37 : decode cX7_shownOf 37 = .ok (.istore_n 3, 1) := by decide +kernel
theorem dX7_shownOf_38 : decode cX7_shownOf 38 = .ok (.iload_n 3, 1) := by decide +kernel
theorem dX7_shownOf_39 : decode cX7_shownOf 39 = .ok (.ifCond .eq 20, 3) := by decide +kernel
theorem dX7_shownOf_42 : decode cX7_shownOf 42 = .ok (.aload_n 0, 1) := by decide +kernel
theorem dX7_shownOf_43 : decode cX7_shownOf 43 = .ok (.getfield 25, 3) := by decide +kernel
theorem dX7_shownOf_46 : decode cX7_shownOf 46 = .ok (.bipush 40, 2) := by decide +kernel
theorem dX7_shownOf_48 : decode cX7_shownOf 48 = .ok (.aload_n 0, 1) := by decide +kernel
theorem dX7_shownOf_49 : decode cX7_shownOf 49 = .ok (.getfield 28, 3) := by decide +kernel
theorem dX7_shownOf_52 : decode cX7_shownOf 52 = .ok (.iload_n 2, 1) := by decide +kernel
theorem dX7_shownOf_53 : decode cX7_shownOf 53 = .ok (.iaload, 1) := by decide +kernel
theorem dX7_shownOf_54 : decode cX7_shownOf 54 = .ok (.iadd, 1) := by decide +kernel
theorem dX7_shownOf_55 : decode cX7_shownOf 55 = .ok (.iaload, 1) := by decide +kernel
theorem dX7_shownOf_56 : decode cX7_shownOf 56 = .ok (.goto 9, 3) := by decide +kernel
theorem dX7_shownOf_59 : decode cX7_shownOf 59 = .ok (.aload_n 0, 1) := by decide +kernel
theorem dX7_shownOf_60 : decode cX7_shownOf 60 = .ok (.getfield 25, 3) := by decide +kernel
theorem dX7_shownOf_63 : decode cX7_shownOf 63 = .ok (.iload_n 2, 1) := by decide +kernel
theorem dX7_shownOf_64 : decode cX7_shownOf 64 = .ok (.iaload, 1) := by decide +kernel
theorem dX7_shownOf_65 : decode cX7_shownOf 65 = .ok (.ireturn, 1) := by decide +kernel
theorem pd_X7_shownOf : (parseMethodDescriptor yX7_shownOf.desc).map (fun d => d.parameters.length) = some 2 := by decide +kernel
def w_X7_shownOf (zz : Nat → Nat) (a0 : Nat) (a1 : Int) (a2 : Int) (h : AH) (Q : Int → AH → Prop) : Prop := okA h a0 7 ∧ ∃ b1 : Nat, hfR h a0 10 = some b1 ∧ okI h b1 a2 ∧ jn (fun (t0_37 : Int) (h_37 : AH) => jn (fun (t0_65 : Int) (h_65 : AH) => Q t0_65 h_65) (fun k_65 : Int → AH → Prop => ((t0_37 = 0) → okA h_37 a0 7 ∧ ∃ b60 : Nat, hfR h_37 a0 8 = some b60 ∧ okI h_37 b60 a2 ∧ k_65 (haI h_37 b60 a2) h_37) ∧ ((¬ (t0_37 = 0)) → okA h_37 a0 7 ∧ ∃ b43 : Nat, hfR h_37 a0 8 = some b43 ∧ okA h_37 a0 7 ∧ ∃ b49 : Nat, hfR h_37 a0 9 = some b49 ∧ okI h_37 b49 a2 ∧ inR ((40 : Int) + (haI h_37 b49 a2)) ∧ okI h_37 b43 ((40 : Int) + (haI h_37 b49 a2)) ∧ k_65 (haI h_37 b43 ((40 : Int) + (haI h_37 b49 a2))) h_37))) (fun k_37 : Int → AH → Prop => jn (fun  (h_36 : AH) => k_37 (0 : Int) h_36) (fun k_36 : AH → Prop => ((¬ (haI h b1 a2) = (3 : Int)) → k_36  h) ∧ (((haI h b1 a2) = (3 : Int)) → okA h a0 7 ∧ w_X7_firstMoving zz a0 h (fun (r12 : Int) (h12 : AH) => ((a1 < r12) → k_36  h12) ∧ ((¬ (a1 < r12)) → okA h12 a0 7 ∧ w_X7_placeIn zz a0 a1 a2 h12 (fun (r21 : Int) (h21 : AH) => okA h21 a0 7 ∧ w_X7_goal zz a0 a2 h21 (fun (r26 : Int) (h26 : AH) => ((¬ r21 = r26) → k_36  h26) ∧ ((r21 = r26) → k_37 (1 : Int) h26))))))))
set_option maxRecDepth 100000 in
set_option maxHeartbeats 4000000 in
theorem met_X7_shownOf (G : GG) (l : Launch) : ∀ (As : List Value) (a0 : Nat) (a1 : Int) (a2 : Int) (h : AH) (Q : Int → AH → Prop), As.map ab = List.map some ([vR a0, vI a1, vI a2] : List AV) → w_X7_shownOf G.2.2 a0 a1 a2 h Q → Met l yX7_shownOf (.code yX7_shownOf cX7_shownOf 4 (some .int) :: xTb) ({ frames := 3, cells := 0, slots := 0, locals := 67 } : Room) (PcA G As h) (QG G (oI Q)) 0 0 (frA G) := by
  intro As a0 a1 a2 h Q hA hw
  refine met_of hA (by decide) (Nat.le_of_ble_eq_true rfl) (fun p e s m args below meth c C hml hr hnm => ?_)
  unfold w_X7_shownOf at hw
  refine aw_aload_n (pc := 0) C dX7_shownOf_0 rfl rfl ?_
  obtain ⟨hp9, b1, hb9, hw⟩ := hw
  refine aw_getR (pc := 1) C (ci := 7) (k := 10) ci7 (by decide) tw802 dX7_shownOf_1 rfl hp9 hb9 ?_
  refine aw_iload_n (pc := 4) C dX7_shownOf_4 rfl rfl ?_
  obtain ⟨⟨k9, hp9⟩, hw⟩ := hw
  refine aw_iald (pc := 5) C dX7_shownOf_5 hp9 ?_
  refine aw_iconst (pc := 6) C dX7_shownOf_6 (i := (3 : Int)) (by decide) ?_
  obtain ⟨k_37, hk_37, hw⟩ := jn_out hw
  have J_37 : ∀ (t0_37 : Int) (h_37 : AH), k_37 t0_37 h_37 → AW G p l e ({ frames := 3, cells := 0, slots := 0, locals := 67 } : Room) s m args below meth c 0 0 (MQ below (QG G (oI Q)) args s 0 0 (frA G)) 37 (eOf [(0, vR a0), (2, vI a2)]) [vI t0_37] h_37 := by
    intro t0_37 h_37 hw
    rw [hk_37] at hw
    refine aw_istore_n (pc := 37) C dX7_shownOf_37 rfl (by rw [hml]; decide) ?_
    refine aw_iload_n (pc := 38) C dX7_shownOf_38 rfl rfl ?_
    obtain ⟨k_65, hk_65, hw⟩ := jn_out hw
    have J_65 : ∀ (t0_65 : Int) (h_65 : AH), k_65 t0_65 h_65 → AW G p l e ({ frames := 3, cells := 0, slots := 0, locals := 67 } : Room) s m args below meth c 0 0 (MQ below (QG G (oI Q)) args s 0 0 (frA G)) 65 (eOf []) [vI t0_65] h_65 := by
      intro t0_65 h_65 hw
      rw [hk_65] at hw
      exact aw_iret (pc := 65) C hr dX7_shownOf_65 ⟨Nat.le_of_ble_eq_true rfl, Nat.le_of_ble_eq_true rfl⟩ ⟨_, rfl, hw⟩
    refine aw_if_eq (pc := 39) (tgt := 59) C dX7_shownOf_39 (by decide) (fun hc9 => ?_) (fun hc9 => ?_)
    · have hw := hw.1 hc9
      refine aw_aload_n (pc := 59) C dX7_shownOf_59 rfl rfl ?_
      obtain ⟨hp9, b60, hb9, hw⟩ := hw
      refine aw_getR (pc := 60) C (ci := 7) (k := 8) ci7 (by decide) tw800 dX7_shownOf_60 rfl hp9 hb9 ?_
      refine aw_iload_n (pc := 63) C dX7_shownOf_63 rfl rfl ?_
      obtain ⟨⟨k9, hp9⟩, hw⟩ := hw
      refine aw_iald (pc := 64) C dX7_shownOf_64 hp9 ?_
      refine aw_sub [] trivial ?_
      exact J_65 _ _ hw
    · have hw := hw.2 hc9
      refine aw_aload_n (pc := 42) C dX7_shownOf_42 rfl rfl ?_
      obtain ⟨hp9, b43, hb9, hw⟩ := hw
      refine aw_getR (pc := 43) C (ci := 7) (k := 8) ci7 (by decide) tw800 dX7_shownOf_43 rfl hp9 hb9 ?_
      refine aw_bipush (pc := 46) C dX7_shownOf_46 (i := (40 : Int)) (by decide) ?_
      refine aw_aload_n (pc := 48) C dX7_shownOf_48 rfl rfl ?_
      obtain ⟨hp9, b49, hb9, hw⟩ := hw
      refine aw_getR (pc := 49) C (ci := 7) (k := 9) ci7 (by decide) tw801 dX7_shownOf_49 rfl hp9 hb9 ?_
      refine aw_iload_n (pc := 52) C dX7_shownOf_52 rfl rfl ?_
      obtain ⟨⟨k9, hp9⟩, hw⟩ := hw
      refine aw_iald (pc := 53) C dX7_shownOf_53 hp9 ?_
      obtain ⟨hp9, hw⟩ := hw
      refine aw_iadd (pc := 54) C dX7_shownOf_54 hp9 ?_
      obtain ⟨⟨k9, hp9⟩, hw⟩ := hw
      refine aw_iald (pc := 55) C dX7_shownOf_55 hp9 ?_
      refine aw_goto (pc := 56) (tgt := 65) C dX7_shownOf_56 (by decide) ?_
      refine aw_sub [] trivial ?_
      exact J_65 _ _ hw
  obtain ⟨k_36, hk_36, hw⟩ := jn_out hw
  have J_36 : ∀  (h_36 : AH), k_36  h_36 → AW G p l e ({ frames := 3, cells := 0, slots := 0, locals := 67 } : Room) s m args below meth c 0 0 (MQ below (QG G (oI Q)) args s 0 0 (frA G)) 36 (eOf [(0, vR a0), (2, vI a2)]) [] h_36 := by
    intro  h_36 hw
    rw [hk_36] at hw
    refine aw_iconst (pc := 36) C dX7_shownOf_36 (i := (0 : Int)) (by decide) ?_
    refine aw_sub [(0, vR a0), (2, vI a2)] ⟨rfl, rfl, trivial⟩ ?_
    exact J_37 _ _ hw
  refine aw_icmp_ne (pc := 7) (tgt := 36) C dX7_shownOf_7 (by decide) (fun hc9 => ?_) (fun hc9 => ?_)
  · have hw := hw.1 hc9
    refine aw_sub [(0, vR a0), (2, vI a2)] ⟨rfl, rfl, trivial⟩ ?_
    exact J_36  _ hw
  · have hw := hw.2 hc9
    refine aw_iload_n (pc := 10) C dX7_shownOf_10 rfl rfl ?_
    refine aw_aload_n (pc := 11) C dX7_shownOf_11 rfl rfl ?_
    obtain ⟨hp9, hw⟩ := hw
    refine aw_callV (pc := 12) (as := []) C ci7 (fun As hA => met_X7_firstMoving G l As a0 _ _ hA hw) tw977 tw979 (tbp 54 (n := 21) (by decide +kernel)) tw10 tw980 ⟨rfl, rfl⟩ ⟨rfl, by decide, by decide, pd_X7_firstMoving⟩ ⟨Nat.le_of_ble_eq_true rfl, Nat.le_of_ble_eq_true rfl⟩ ⟨Nat.zero_le _, Nat.zero_le _⟩ (Nat.le_of_ble_eq_true rfl) dX7_shownOf_12 rfl hp9 (fun v9 h12 hq9 => ?_)
    obtain ⟨r12, rfl, hw⟩ := hq9
    refine aw_icmp_lt (pc := 15) (tgt := 36) C dX7_shownOf_15 (by decide) (fun hc9 => ?_) (fun hc9 => ?_)
    · have hw := hw.1 hc9
      refine aw_sub [(0, vR a0), (2, vI a2)] ⟨rfl, rfl, trivial⟩ ?_
      exact J_36  _ hw
    · have hw := hw.2 hc9
      refine aw_aload_n (pc := 18) C dX7_shownOf_18 rfl rfl ?_
      refine aw_iload_n (pc := 19) C dX7_shownOf_19 rfl rfl ?_
      refine aw_iload_n (pc := 20) C dX7_shownOf_20 rfl rfl ?_
      obtain ⟨hp9, hw⟩ := hw
      refine aw_callV (pc := 21) (as := [vI a1, vI a2]) C ci7 (fun As hA => met_X7_placeIn G l As a0 a1 a2 _ _ hA hw) tw1045 tw1047 (tbp 64 (n := 21) (by decide +kernel)) tw10 tw1048 ⟨rfl, rfl⟩ ⟨rfl, by decide, by decide, pd_X7_placeIn⟩ ⟨Nat.le_of_ble_eq_true rfl, Nat.le_of_ble_eq_true rfl⟩ ⟨Nat.zero_le _, Nat.zero_le _⟩ (Nat.le_of_ble_eq_true rfl) dX7_shownOf_21 rfl hp9 (fun v9 h21 hq9 => ?_)
      obtain ⟨r21, rfl, hw⟩ := hq9
      refine aw_aload_n (pc := 24) C dX7_shownOf_24 rfl rfl ?_
      refine aw_iload_n (pc := 25) C dX7_shownOf_25 rfl rfl ?_
      obtain ⟨hp9, hw⟩ := hw
      refine aw_callV (pc := 26) (as := [vI a2]) C ci7 (fun As hA => met_X7_goal G l As a0 a2 _ _ hA hw) tw965 tw967 (tbp 51 (n := 21) (by decide +kernel)) tw10 tw968 ⟨rfl, rfl⟩ ⟨rfl, by decide, by decide, pd_X7_goal⟩ ⟨Nat.le_of_ble_eq_true rfl, Nat.le_of_ble_eq_true rfl⟩ ⟨Nat.zero_le _, Nat.zero_le _⟩ (Nat.le_of_ble_eq_true rfl) dX7_shownOf_26 rfl hp9 (fun v9 h26 hq9 => ?_)
      obtain ⟨r26, rfl, hw⟩ := hq9
      refine aw_icmp_ne (pc := 29) (tgt := 36) C dX7_shownOf_29 (by decide) (fun hc9 => ?_) (fun hc9 => ?_)
      · have hw := hw.1 hc9
        refine aw_sub [(0, vR a0), (2, vI a2)] ⟨rfl, rfl, trivial⟩ ?_
        exact J_36  _ hw
      · have hw := hw.2 hc9
        refine aw_iconst (pc := 32) C dX7_shownOf_32 (i := (1 : Int)) (by decide) ?_
        refine aw_goto (pc := 33) (tgt := 37) C dX7_shownOf_33 (by decide) ?_
        refine aw_sub [(0, vR a0), (2, vI a2)] ⟨rfl, rfl, trivial⟩ ?_
        exact J_37 _ _ hw
theorem dX7_shown_0 : decode cX7_shown 0 = .ok (.iconst 0, 1) := by decide +kernel
theorem dX7_shown_1 : decode cX7_shown 1 = .ok (.istore_n 3, 1) := by decide +kernel
theorem dX7_shown_2 : decode cX7_shown 2 = .ok (.iload_n 3, 1) := by decide +kernel
theorem dX7_shown_3 : decode cX7_shown 3 = .ok (.aload_n 0, 1) := by decide +kernel
theorem dX7_shown_4 : decode cX7_shown 4 = .ok (.getfield 19, 3) := by decide +kernel
theorem dX7_shown_7 : decode cX7_shown 7 = .ok (.iconst 0, 1) := by decide +kernel
theorem dX7_shown_8 : decode cX7_shown 8 = .ok (.iaload, 1) := by decide +kernel
theorem dX7_shown_9 : decode cX7_shown 9 = .ok (.if_icmp .ge 26, 3) := by decide +kernel
theorem dX7_shown_12 : decode cX7_shown 12 = .ok (.aload_n 0, 1) := by decide +kernel
theorem dX7_shown_13 : decode cX7_shown 13 = .ok (.iload_n 1, 1) := by decide +kernel
theorem dX7_shown_14 : decode cX7_shown 14 = .ok (.iload_n 3, 1) := by decide +kernel
theorem dX7_shown_15 : decode cX7_shown 15 = .ok (.invokevirtual 137, 3) := by decide +kernel
theorem dX7_shown_18 : decode cX7_shown 18 = .ok (.iload_n 2, 1) := by decide +kernel
theorem dX7_shown_19 : decode cX7_shown 19 = .ok (.if_icmp .ne 10, 3) := by decide +kernel
theorem dX7_shown_22 : decode cX7_shown 22 = .ok (.aload_n 0, 1) := by decide +kernel
theorem dX7_shown_23 : decode cX7_shown 23 = .ok (.iload_n 1, 1) := by decide +kernel
theorem dX7_shown_24 : decode cX7_shown 24 = .ok (.iload_n 3, 1) := by decide +kernel
theorem dX7_shown_25 : decode cX7_shown 25 = .ok (.invokevirtual 140, 3) := by decide +kernel
theorem dX7_shown_28 : decode cX7_shown 28 = .ok (.ireturn, 1) := by decide +kernel
theorem dX7_shown_29 : decode cX7_shown 29 = .ok (.iinc 3 1, 3) := by decide +kernel
theorem dX7_shown_32 : decode cX7_shown 32 = .ok (.goto (-30), 3) := by decide +kernel
theorem dX7_shown_35 : decode cX7_shown 35 = .ok (.iload_n 1, 1) := by decide +kernel
theorem dX7_shown_36 : decode cX7_shown 36 = .ok (.aload_n 0, 1) := by decide +kernel
theorem dX7_shown_37 : decode cX7_shown 37 = .ok (.invokevirtual 110, 3) := by decide +kernel
theorem dX7_shown_40 : decode cX7_shown 40 = .ok (.isub, 1) := by decide +kernel
theorem dX7_shown_41 : decode cX7_shown 41 = .ok (.aload_n 0, 1) := by decide +kernel
theorem dX7_shown_42 : decode cX7_shown 42 = .ok (.getfield 101, 3) := by decide +kernel
theorem dX7_shown_45 : decode cX7_shown 45 = .ok (.isub, 1) := by decide +kernel
theorem dX7_shown_46 : decode cX7_shown 46 = .ok (.iconst 1, 1) := by decide +kernel
theorem dX7_shown_47 : decode cX7_shown 47 = .ok (.iadd, 1) := by decide +kernel
theorem dX7_shown_48 : decode cX7_shown 48 = .ok (.istore_n 3, 1) := by decide +kernel
theorem dX7_shown_49 : decode cX7_shown 49 = .ok (.iconst 0, 1) := by decide +kernel
theorem dX7_shown_50 : decode cX7_shown 50 = .ok (.istore 4, 2) := by decide +kernel
theorem dX7_shown_52 : decode cX7_shown 52 = .ok (.iload 4, 2) := by decide +kernel
theorem dX7_shown_54 : decode cX7_shown 54 = .ok (.aload_n 0, 1) := by decide +kernel
theorem dX7_shown_55 : decode cX7_shown 55 = .ok (.getfield 19, 3) := by decide +kernel
theorem dX7_shown_58 : decode cX7_shown 58 = .ok (.iconst 1, 1) := by decide +kernel
theorem dX7_shown_59 : decode cX7_shown 59 = .ok (.iaload, 1) := by decide +kernel
theorem dX7_shown_60 : decode cX7_shown 60 = .ok (.if_icmp .ge 55, 3) := by decide +kernel
theorem dX7_shown_63 : decode cX7_shown 63 = .ok (.aload_n 0, 1) := by decide +kernel
theorem dX7_shown_64 : decode cX7_shown 64 = .ok (.getfield 31, 3) := by decide +kernel
theorem dX7_shown_67 : decode cX7_shown 67 = .ok (.bipush 40, 2) := by decide +kernel
theorem dX7_shown_69 : decode cX7_shown 69 = .ok (.iload 4, 2) := by decide +kernel
theorem dX7_shown_71 : decode cX7_shown 71 = .ok (.iadd, 1) := by decide +kernel
theorem dX7_shown_72 : decode cX7_shown 72 = .ok (.iaload, 1) := by decide +kernel
theorem dX7_shown_73 : decode cX7_shown 73 = .ok (.iconst 5, 1) := by decide +kernel
theorem dX7_shown_74 : decode cX7_shown 74 = .ok (.if_icmp .ne 35, 3) := by decide +kernel
theorem dX7_shown_77 : decode cX7_shown 77 = .ok (.iload_n 3, 1) := by decide +kernel
theorem dX7_shown_78 : decode cX7_shown 78 = .ok (.ifCond .le 28, 3) := by decide +kernel
theorem dX7_shown_81 : decode cX7_shown 81 = .ok (.aload_n 0, 1) := by decide +kernel
theorem dX7_shown_82 : decode cX7_shown 82 = .ok (.getfield 22, 3) := by decide +kernel
theorem dX7_shown_85 : decode cX7_shown 85 = .ok (.bipush 40, 2) := by decide +kernel
theorem dX7_shown_87 : decode cX7_shown 87 = .ok (.iload 4, 2) := by decide +kernel
theorem dX7_shown_89 : decode cX7_shown 89 = .ok (.iadd, 1) := by decide +kernel
theorem dX7_shown_90 : decode cX7_shown 90 = .ok (.iaload, 1) := by decide +kernel
theorem dX7_shown_91 : decode cX7_shown 91 = .ok (.iload_n 2, 1) := by decide +kernel
theorem dX7_shown_92 : decode cX7_shown 92 = .ok (.if_icmp .ne 14, 3) := by decide +kernel
theorem dX7_shown_95 : decode cX7_shown 95 = .ok (.aload_n 0, 1) := by decide +kernel
theorem dX7_shown_96 : decode cX7_shown 96 = .ok (.getfield 25, 3) := by decide +kernel
theorem dX7_shown_99 : decode cX7_shown 99 = .ok (.bipush 40, 2) := by decide +kernel
theorem dX7_shown_101 : decode cX7_shown 101 = .ok (.iload 4, 2) := by decide +kernel
theorem dX7_shown_103 : decode cX7_shown 103 = .ok (.iadd, 1) := by decide +kernel
theorem dX7_shown_104 : decode cX7_shown 104 = .ok (.iaload, 1) := by decide +kernel
theorem dX7_shown_105 : decode cX7_shown 105 = .ok (.ireturn, 1) := by decide +kernel
theorem dX7_shown_106 : decode cX7_shown 106 = .ok (.iinc 3 (-1), 3) := by decide +kernel
theorem dX7_shown_109 : decode cX7_shown 109 = .ok (.iinc 4 1, 3) := by decide +kernel
theorem dX7_shown_112 : decode cX7_shown 112 = .ok (.goto (-60), 3) := by decide +kernel
theorem dX7_shown_115 : decode cX7_shown 115 = .ok (.bipush 32, 2) := by decide +kernel
theorem dX7_shown_117 : decode cX7_shown 117 = .ok (.ireturn, 1) := by decide +kernel
theorem pd_X7_shown : (parseMethodDescriptor yX7_shown.desc).map (fun d => d.parameters.length) = some 2 := by decide +kernel
def w_X7_shown (zz : Nat → Nat) (a0 : Nat) (a1 : Int) (a2 : Int) (h : AH) (Q : Int → AH → Prop) : Prop := ∃ I_2 : Nat → Int → AH → Prop, (∃ n, I_2 n (0 : Int) h) ∧ ∀ (n_2 : Nat) (x3_2 : Int) (h_2 : AH), I_2 n_2 x3_2 h_2 → (okA h_2 a0 7 ∧ ∃ b4 : Nat, hfR h_2 a0 6 = some b4 ∧ okI h_2 b4 (0 : Int) ∧ (((haI h_2 b4 (0 : Int)) ≤ x3_2) → okA h_2 a0 7 ∧ w_X7_firstMoving zz a0 h_2 (fun (r37 : Int) (h37 : AH) => inR (a1 - r37) ∧ okA h37 a0 7 ∧ inR ((a1 - r37) - (hfI h37 a0 12)) ∧ inR (((a1 - r37) - (hfI h37 a0 12)) + (1 : Int)) ∧ ∀ x3_48 : Int, x3_48 = (((a1 - r37) - (hfI h37 a0 12)) + (1 : Int)) → ∃ I_52 : Nat → Int → Int → AH → Prop, (∃ n, I_52 n x3_48 (0 : Int) h37) ∧ ∀ (n_52 : Nat) (x3_52 : Int) (x4_52 : Int) (h_52 : AH), I_52 n_52 x3_52 x4_52 h_52 → (okA h_52 a0 7 ∧ ∃ b55 : Nat, hfR h_52 a0 6 = some b55 ∧ okI h_52 b55 (1 : Int) ∧ (((haI h_52 b55 (1 : Int)) ≤ x4_52) → Q (32 : Int) h_52) ∧ ((¬ ((haI h_52 b55 (1 : Int)) ≤ x4_52)) → okA h_52 a0 7 ∧ ∃ b64 : Nat, hfR h_52 a0 10 = some b64 ∧ inR ((40 : Int) + x4_52) ∧ okI h_52 b64 ((40 : Int) + x4_52) ∧ jn (fun (x3_109 : Int) (h_109 : AH) => inR (x4_52 + 1) ∧ ∀ x4_109 : Int, x4_109 = (x4_52 + 1) → ∃ m, m < n_52 ∧ I_52 m x3_109 x4_109 h_109) (fun k_109 : Int → AH → Prop => ((¬ (haI h_52 b64 ((40 : Int) + x4_52)) = (5 : Int)) → k_109 x3_52 h_52) ∧ (((haI h_52 b64 ((40 : Int) + x4_52)) = (5 : Int)) → jn (fun  (h_106 : AH) => inR (x3_52 + (-1)) ∧ ∀ x3_106 : Int, x3_106 = (x3_52 + (-1)) → k_109 x3_106 h_106) (fun k_106 : AH → Prop => ((x3_52 ≤ 0) → k_106  h_52) ∧ ((¬ (x3_52 ≤ 0)) → okA h_52 a0 7 ∧ ∃ b82 : Nat, hfR h_52 a0 7 = some b82 ∧ inR ((40 : Int) + x4_52) ∧ okI h_52 b82 ((40 : Int) + x4_52) ∧ ((¬ (haI h_52 b82 ((40 : Int) + x4_52)) = a2) → k_106  h_52) ∧ (((haI h_52 b82 ((40 : Int) + x4_52)) = a2) → okA h_52 a0 7 ∧ ∃ b96 : Nat, hfR h_52 a0 8 = some b96 ∧ inR ((40 : Int) + x4_52) ∧ okI h_52 b96 ((40 : Int) + x4_52) ∧ Q (haI h_52 b96 ((40 : Int) + x4_52)) h_52))))))))) ∧ ((¬ ((haI h_2 b4 (0 : Int)) ≤ x3_2)) → okA h_2 a0 7 ∧ w_X7_placeIn zz a0 a1 x3_2 h_2 (fun (r15 : Int) (h15 : AH) => ((¬ r15 = a2) → inR (x3_2 + 1) ∧ ∀ x3_29 : Int, x3_29 = (x3_2 + 1) → ∃ m, m < n_2 ∧ I_2 m x3_29 h15) ∧ ((r15 = a2) → okA h15 a0 7 ∧ w_X7_shownOf zz a0 a1 x3_2 h15 (fun (r25 : Int) (h25 : AH) => Q r25 h25)))))
set_option maxRecDepth 100000 in
set_option maxHeartbeats 4000000 in
theorem met_X7_shown (G : GG) (l : Launch) : ∀ (As : List Value) (a0 : Nat) (a1 : Int) (a2 : Int) (h : AH) (Q : Int → AH → Prop), As.map ab = List.map some ([vR a0, vI a1, vI a2] : List AV) → w_X7_shown G.2.2 a0 a1 a2 h Q → Met l yX7_shown (.code yX7_shown cX7_shown 5 (some .int) :: xTb) ({ frames := 4, cells := 0, slots := 0, locals := 90 } : Room) (PcA G As h) (QG G (oI Q)) 0 0 (frA G) := by
  intro As a0 a1 a2 h Q hA hw
  refine met_of hA (by decide) (Nat.le_of_ble_eq_true rfl) (fun p e s m args below meth c C hml hr hnm => ?_)
  unfold w_X7_shown at hw
  refine aw_iconst (pc := 0) C dX7_shown_0 (i := (0 : Int)) (by decide) ?_
  refine aw_istore_n (pc := 1) C dX7_shown_1 rfl (by rw [hml]; decide) ?_
  obtain ⟨I_2, ⟨n9, hi9⟩, hst9⟩ := hw
  have L_2 : ∀ (n_2 : Nat) (x3_2 : Int) (h_2 : AH), I_2 n_2 x3_2 h_2 → AW G p l e ({ frames := 4, cells := 0, slots := 0, locals := 90 } : Room) s m args below meth c 0 0 (MQ below (QG G (oI Q)) args s 0 0 (frA G)) 2 (eOf [(0, vR a0), (1, vI a1), (2, vI a2), (3, vI x3_2)]) [] h_2 := by
    intro n_2
    induction n_2 using Nat.strongRecOn with
    | _ n_2 ih_2 =>
    intro x3_2 h_2 hi9
    have hw := hst9 n_2 x3_2 h_2 hi9
    refine aw_iload_n (pc := 2) C dX7_shown_2 rfl rfl ?_
    refine aw_aload_n (pc := 3) C dX7_shown_3 rfl rfl ?_
    obtain ⟨hp9, b4, hb9, hw⟩ := hw
    refine aw_getR (pc := 4) C (ci := 7) (k := 6) ci7 (by decide) tw798 dX7_shown_4 rfl hp9 hb9 ?_
    refine aw_iconst (pc := 7) C dX7_shown_7 (i := (0 : Int)) (by decide) ?_
    obtain ⟨⟨k9, hp9⟩, hw⟩ := hw
    refine aw_iald (pc := 8) C dX7_shown_8 hp9 ?_
    refine aw_icmp_ge (pc := 9) (tgt := 35) C dX7_shown_9 (by decide) (fun hc9 => ?_) (fun hc9 => ?_)
    · have hw := hw.1 hc9
      refine aw_iload_n (pc := 35) C dX7_shown_35 rfl rfl ?_
      refine aw_aload_n (pc := 36) C dX7_shown_36 rfl rfl ?_
      obtain ⟨hp9, hw⟩ := hw
      refine aw_callV (pc := 37) (as := []) C ci7 (fun As hA => met_X7_firstMoving G l As a0 _ _ hA hw) tw977 tw979 (tbp 54 (n := 21) (by decide +kernel)) tw10 tw980 ⟨rfl, rfl⟩ ⟨rfl, by decide, by decide, pd_X7_firstMoving⟩ ⟨Nat.le_of_ble_eq_true rfl, Nat.le_of_ble_eq_true rfl⟩ ⟨Nat.zero_le _, Nat.zero_le _⟩ (Nat.le_of_ble_eq_true rfl) dX7_shown_37 rfl hp9 (fun v9 h37 hq9 => ?_)
      obtain ⟨r37, rfl, hw⟩ := hq9
      obtain ⟨hp9, hw⟩ := hw
      refine aw_isub (pc := 40) C dX7_shown_40 hp9 ?_
      refine aw_aload_n (pc := 41) C dX7_shown_41 rfl rfl ?_
      obtain ⟨hp9, hw⟩ := hw
      refine aw_getI (pc := 42) C (ci := 7) (k := 12) ci7 (by decide) tw804 dX7_shown_42 rfl hp9 ?_
      obtain ⟨hp9, hw⟩ := hw
      refine aw_isub (pc := 45) C dX7_shown_45 hp9 ?_
      refine aw_iconst (pc := 46) C dX7_shown_46 (i := (1 : Int)) (by decide) ?_
      obtain ⟨hp9, hw⟩ := hw
      refine aw_iadd (pc := 47) C dX7_shown_47 hp9 ?_
      refine aw_nmI (fun x3_48 e9 => ?_)
      have hw := hw x3_48 e9
      refine aw_istore_n (pc := 48) C dX7_shown_48 rfl (by rw [hml]; decide) ?_
      refine aw_iconst (pc := 49) C dX7_shown_49 (i := (0 : Int)) (by decide) ?_
      refine aw_istore (pc := 50) C dX7_shown_50 (by rw [hml]; decide) ?_
      obtain ⟨I_52, ⟨n9, hi9⟩, hst9⟩ := hw
      have L_52 : ∀ (n_52 : Nat) (x3_52 : Int) (x4_52 : Int) (h_52 : AH), I_52 n_52 x3_52 x4_52 h_52 → AW G p l e ({ frames := 4, cells := 0, slots := 0, locals := 90 } : Room) s m args below meth c 0 0 (MQ below (QG G (oI Q)) args s 0 0 (frA G)) 52 (eOf [(0, vR a0), (2, vI a2), (3, vI x3_52), (4, vI x4_52)]) [] h_52 := by
        intro n_52
        induction n_52 using Nat.strongRecOn with
        | _ n_52 ih_52 =>
        intro x3_52 x4_52 h_52 hi9
        have hw := hst9 n_52 x3_52 x4_52 h_52 hi9
        refine aw_iload (pc := 52) C dX7_shown_52 rfl ?_
        refine aw_aload_n (pc := 54) C dX7_shown_54 rfl rfl ?_
        obtain ⟨hp9, b55, hb9, hw⟩ := hw
        refine aw_getR (pc := 55) C (ci := 7) (k := 6) ci7 (by decide) tw798 dX7_shown_55 rfl hp9 hb9 ?_
        refine aw_iconst (pc := 58) C dX7_shown_58 (i := (1 : Int)) (by decide) ?_
        obtain ⟨⟨k9, hp9⟩, hw⟩ := hw
        refine aw_iald (pc := 59) C dX7_shown_59 hp9 ?_
        refine aw_icmp_ge (pc := 60) (tgt := 115) C dX7_shown_60 (by decide) (fun hc9 => ?_) (fun hc9 => ?_)
        · have hw := hw.1 hc9
          refine aw_bipush (pc := 115) C dX7_shown_115 (i := (32 : Int)) (by decide) ?_
          exact aw_iret (pc := 117) C hr dX7_shown_117 ⟨Nat.le_of_ble_eq_true rfl, Nat.le_of_ble_eq_true rfl⟩ ⟨_, rfl, hw⟩
        · have hw := hw.2 hc9
          refine aw_aload_n (pc := 63) C dX7_shown_63 rfl rfl ?_
          obtain ⟨hp9, b64, hb9, hw⟩ := hw
          refine aw_getR (pc := 64) C (ci := 7) (k := 10) ci7 (by decide) tw802 dX7_shown_64 rfl hp9 hb9 ?_
          refine aw_bipush (pc := 67) C dX7_shown_67 (i := (40 : Int)) (by decide) ?_
          refine aw_iload (pc := 69) C dX7_shown_69 rfl ?_
          obtain ⟨hp9, hw⟩ := hw
          refine aw_iadd (pc := 71) C dX7_shown_71 hp9 ?_
          obtain ⟨⟨k9, hp9⟩, hw⟩ := hw
          refine aw_iald (pc := 72) C dX7_shown_72 hp9 ?_
          refine aw_iconst (pc := 73) C dX7_shown_73 (i := (5 : Int)) (by decide) ?_
          obtain ⟨k_109, hk_109, hw⟩ := jn_out hw
          have J_109 : ∀ (x3_109 : Int) (h_109 : AH), k_109 x3_109 h_109 → AW G p l e ({ frames := 4, cells := 0, slots := 0, locals := 90 } : Room) s m args below meth c 0 0 (MQ below (QG G (oI Q)) args s 0 0 (frA G)) 109 (eOf [(0, vR a0), (2, vI a2), (3, vI x3_109), (4, vI x4_52)]) [] h_109 := by
            intro x3_109 h_109 hw
            rw [hk_109] at hw
            obtain ⟨hp9, hw⟩ := hw
            refine aw_iincN (pc := 109) C dX7_shown_109 (k := 1) (by decide) rfl (by rw [hml]; decide) hp9 (fun x4_109 e9 => ?_)
            have hw := hw x4_109 e9
            refine aw_goto (pc := 112) (tgt := 52) C dX7_shown_112 (by decide) ?_
            obtain ⟨m9, hm9, hw⟩ := hw
            refine aw_sub [(0, vR a0), (2, vI a2), (3, vI x3_109), (4, vI x4_109)] ⟨rfl, rfl, rfl, rfl, trivial⟩ ?_
            exact ih_52 m9 hm9 _ _ _ hw
          refine aw_icmp_ne (pc := 74) (tgt := 109) C dX7_shown_74 (by decide) (fun hc9 => ?_) (fun hc9 => ?_)
          · have hw := hw.1 hc9
            refine aw_sub [(0, vR a0), (2, vI a2), (3, vI x3_52), (4, vI x4_52)] ⟨rfl, rfl, rfl, rfl, trivial⟩ ?_
            exact J_109 _ _ hw
          · have hw := hw.2 hc9
            refine aw_iload_n (pc := 77) C dX7_shown_77 rfl rfl ?_
            obtain ⟨k_106, hk_106, hw⟩ := jn_out hw
            have J_106 : ∀  (h_106 : AH), k_106  h_106 → AW G p l e ({ frames := 4, cells := 0, slots := 0, locals := 90 } : Room) s m args below meth c 0 0 (MQ below (QG G (oI Q)) args s 0 0 (frA G)) 106 (eOf [(0, vR a0), (2, vI a2), (3, vI x3_52), (4, vI x4_52)]) [] h_106 := by
              intro  h_106 hw
              rw [hk_106] at hw
              obtain ⟨hp9, hw⟩ := hw
              refine aw_iincN (pc := 106) C dX7_shown_106 (k := (-1)) (by decide) rfl (by rw [hml]; decide) hp9 (fun x3_106 e9 => ?_)
              have hw := hw x3_106 e9
              refine aw_sub [(0, vR a0), (2, vI a2), (3, vI x3_106), (4, vI x4_52)] ⟨rfl, rfl, rfl, rfl, trivial⟩ ?_
              exact J_109 _ _ hw
            refine aw_if_le (pc := 78) (tgt := 106) C dX7_shown_78 (by decide) (fun hc9 => ?_) (fun hc9 => ?_)
            · have hw := hw.1 hc9
              refine aw_sub [(0, vR a0), (2, vI a2), (3, vI x3_52), (4, vI x4_52)] ⟨rfl, rfl, rfl, rfl, trivial⟩ ?_
              exact J_106  _ hw
            · have hw := hw.2 hc9
              refine aw_aload_n (pc := 81) C dX7_shown_81 rfl rfl ?_
              obtain ⟨hp9, b82, hb9, hw⟩ := hw
              refine aw_getR (pc := 82) C (ci := 7) (k := 7) ci7 (by decide) tw799 dX7_shown_82 rfl hp9 hb9 ?_
              refine aw_bipush (pc := 85) C dX7_shown_85 (i := (40 : Int)) (by decide) ?_
              refine aw_iload (pc := 87) C dX7_shown_87 rfl ?_
              obtain ⟨hp9, hw⟩ := hw
              refine aw_iadd (pc := 89) C dX7_shown_89 hp9 ?_
              obtain ⟨⟨k9, hp9⟩, hw⟩ := hw
              refine aw_iald (pc := 90) C dX7_shown_90 hp9 ?_
              refine aw_iload_n (pc := 91) C dX7_shown_91 rfl rfl ?_
              refine aw_icmp_ne (pc := 92) (tgt := 106) C dX7_shown_92 (by decide) (fun hc9 => ?_) (fun hc9 => ?_)
              · have hw := hw.1 hc9
                refine aw_sub [(0, vR a0), (2, vI a2), (3, vI x3_52), (4, vI x4_52)] ⟨rfl, rfl, rfl, rfl, trivial⟩ ?_
                exact J_106  _ hw
              · have hw := hw.2 hc9
                refine aw_aload_n (pc := 95) C dX7_shown_95 rfl rfl ?_
                obtain ⟨hp9, b96, hb9, hw⟩ := hw
                refine aw_getR (pc := 96) C (ci := 7) (k := 8) ci7 (by decide) tw800 dX7_shown_96 rfl hp9 hb9 ?_
                refine aw_bipush (pc := 99) C dX7_shown_99 (i := (40 : Int)) (by decide) ?_
                refine aw_iload (pc := 101) C dX7_shown_101 rfl ?_
                obtain ⟨hp9, hw⟩ := hw
                refine aw_iadd (pc := 103) C dX7_shown_103 hp9 ?_
                obtain ⟨⟨k9, hp9⟩, hw⟩ := hw
                refine aw_iald (pc := 104) C dX7_shown_104 hp9 ?_
                exact aw_iret (pc := 105) C hr dX7_shown_105 ⟨Nat.le_of_ble_eq_true rfl, Nat.le_of_ble_eq_true rfl⟩ ⟨_, rfl, hw⟩
      refine aw_sub [(0, vR a0), (2, vI a2), (3, vI x3_48), (4, vI (0 : Int))] ⟨rfl, rfl, rfl, rfl, trivial⟩ ?_
      exact L_52 n9 _ _ _ hi9
    · have hw := hw.2 hc9
      refine aw_aload_n (pc := 12) C dX7_shown_12 rfl rfl ?_
      refine aw_iload_n (pc := 13) C dX7_shown_13 rfl rfl ?_
      refine aw_iload_n (pc := 14) C dX7_shown_14 rfl rfl ?_
      obtain ⟨hp9, hw⟩ := hw
      refine aw_callV (pc := 15) (as := [vI a1, vI x3_2]) C ci7 (fun As hA => met_X7_placeIn G l As a0 a1 x3_2 _ _ hA hw) tw1045 tw1047 (tbp 64 (n := 21) (by decide +kernel)) tw10 tw1048 ⟨rfl, rfl⟩ ⟨rfl, by decide, by decide, pd_X7_placeIn⟩ ⟨Nat.le_of_ble_eq_true rfl, Nat.le_of_ble_eq_true rfl⟩ ⟨Nat.zero_le _, Nat.zero_le _⟩ (Nat.le_of_ble_eq_true rfl) dX7_shown_15 rfl hp9 (fun v9 h15 hq9 => ?_)
      obtain ⟨r15, rfl, hw⟩ := hq9
      refine aw_iload_n (pc := 18) C dX7_shown_18 rfl rfl ?_
      refine aw_icmp_ne (pc := 19) (tgt := 29) C dX7_shown_19 (by decide) (fun hc9 => ?_) (fun hc9 => ?_)
      · have hw := hw.1 hc9
        obtain ⟨hp9, hw⟩ := hw
        refine aw_iincN (pc := 29) C dX7_shown_29 (k := 1) (by decide) rfl (by rw [hml]; decide) hp9 (fun x3_29 e9 => ?_)
        have hw := hw x3_29 e9
        refine aw_goto (pc := 32) (tgt := 2) C dX7_shown_32 (by decide) ?_
        obtain ⟨m9, hm9, hw⟩ := hw
        refine aw_sub [(0, vR a0), (1, vI a1), (2, vI a2), (3, vI x3_29)] ⟨rfl, rfl, rfl, rfl, trivial⟩ ?_
        exact ih_2 m9 hm9 _ _ hw
      · have hw := hw.2 hc9
        refine aw_aload_n (pc := 22) C dX7_shown_22 rfl rfl ?_
        refine aw_iload_n (pc := 23) C dX7_shown_23 rfl rfl ?_
        refine aw_iload_n (pc := 24) C dX7_shown_24 rfl rfl ?_
        obtain ⟨hp9, hw⟩ := hw
        refine aw_callV (pc := 25) (as := [vI a1, vI x3_2]) C ci7 (fun As hA => met_X7_shownOf G l As a0 a1 x3_2 _ _ hA hw) tw1049 tw1051 (tbp 65 (n := 21) (by decide +kernel)) tw10 tw1052 ⟨rfl, rfl⟩ ⟨rfl, by decide, by decide, pd_X7_shownOf⟩ ⟨Nat.le_of_ble_eq_true rfl, Nat.le_of_ble_eq_true rfl⟩ ⟨Nat.zero_le _, Nat.zero_le _⟩ (Nat.le_of_ble_eq_true rfl) dX7_shown_25 rfl hp9 (fun v9 h25 hq9 => ?_)
        obtain ⟨r25, rfl, hw⟩ := hq9
        exact aw_iret (pc := 28) C hr dX7_shown_28 ⟨Nat.le_of_ble_eq_true rfl, Nat.le_of_ble_eq_true rfl⟩ ⟨_, rfl, hw⟩
  refine aw_sub [(0, vR a0), (1, vI a1), (2, vI a2), (3, vI (0 : Int))] ⟨rfl, rfl, rfl, rfl, trivial⟩ ?_
  exact L_2 n9 _ _ hi9
theorem dX7_save_0 : decode cX7_save 0 = .ok (.aload_n 0, 1) := by decide +kernel
theorem dX7_save_1 : decode cX7_save 1 = .ok (.getfield 143, 3) := by decide +kernel
theorem dX7_save_4 : decode cX7_save 4 = .ok (.bipush 6, 2) := by decide +kernel
theorem dX7_save_6 : decode cX7_save 6 = .ok (.if_icmp .ne 46, 3) := by decide +kernel
theorem dX7_save_9 : decode cX7_save 9 = .ok (.sipush 168, 3) := by decide +kernel
theorem dX7_save_12 : decode cX7_save 12 = .ok (.istore_n 1, 1) := by decide +kernel
theorem dX7_save_13 : decode cX7_save 13 = .ok (.iload_n 1, 1) := by decide +kernel
theorem dX7_save_14 : decode cX7_save 14 = .ok (.sipush 1008, 3) := by decide +kernel
theorem dX7_save_17 : decode cX7_save 17 = .ok (.if_icmp .ge 25, 3) := by decide +kernel
theorem dX7_save_20 : decode cX7_save 20 = .ok (.aload_n 0, 1) := by decide +kernel
theorem dX7_save_21 : decode cX7_save 21 = .ok (.getfield 13, 3) := by decide +kernel
theorem dX7_save_24 : decode cX7_save 24 = .ok (.iload_n 1, 1) := by decide +kernel
theorem dX7_save_25 : decode cX7_save 25 = .ok (.sipush 168, 3) := by decide +kernel
theorem dX7_save_28 : decode cX7_save 28 = .ok (.isub, 1) := by decide +kernel
theorem dX7_save_29 : decode cX7_save 29 = .ok (.aload_n 0, 1) := by decide +kernel
theorem dX7_save_30 : decode cX7_save 30 = .ok (.getfield 13, 3) := by decide +kernel
theorem dX7_save_33 : decode cX7_save 33 = .ok (.iload_n 1, 1) := by decide +kernel
theorem dX7_save_34 : decode cX7_save 34 = .ok (.iaload, 1) := by decide +kernel
theorem dX7_save_35 : decode cX7_save 35 = .ok (.iastore, 1) := by decide +kernel
theorem dX7_save_36 : decode cX7_save 36 = .ok (.iinc 1 1, 3) := by decide +kernel
theorem dX7_save_39 : decode cX7_save 39 = .ok (.goto (-26), 3) := by decide +kernel
theorem dX7_save_42 : decode cX7_save 42 = .ok (.aload_n 0, 1) := by decide +kernel
theorem dX7_save_43 : decode cX7_save 43 = .ok (.dup, 1) := by decide +kernel
theorem dX7_save_44 : decode cX7_save 44 = .ok (.getfield 143, 3) := by decide +kernel
theorem dX7_save_47 : decode cX7_save 47 = .ok (.iconst 1, 1) := by decide +kernel
theorem dX7_save_48 : decode cX7_save 48 = .ok (.isub, 1) := by decide +kernel
theorem dX7_save_49 : decode cX7_save 49 = .ok (.putfield 143, 3) := by decide +kernel
theorem dX7_save_52 : decode cX7_save 52 = .ok (.iconst 0, 1) := by decide +kernel
theorem dX7_save_53 : decode cX7_save 53 = .ok (.istore_n 1, 1) := by decide +kernel
theorem dX7_save_54 : decode cX7_save 54 = .ok (.iload_n 1, 1) := by decide +kernel
theorem dX7_save_55 : decode cX7_save 55 = .ok (.sipush 168, 3) := by decide +kernel
theorem dX7_save_58 : decode cX7_save 58 = .ok (.if_icmp .ge 30, 3) := by decide +kernel
theorem dX7_save_61 : decode cX7_save 61 = .ok (.aload_n 0, 1) := by decide +kernel
theorem dX7_save_62 : decode cX7_save 62 = .ok (.getfield 13, 3) := by decide +kernel
theorem dX7_save_65 : decode cX7_save 65 = .ok (.sipush 168, 3) := by decide +kernel
theorem dX7_save_68 : decode cX7_save 68 = .ok (.aload_n 0, 1) := by decide +kernel
theorem dX7_save_69 : decode cX7_save 69 = .ok (.getfield 143, 3) := by decide +kernel
theorem dX7_save_72 : decode cX7_save 72 = .ok (.imul, 1) := by decide +kernel
theorem dX7_save_73 : decode cX7_save 73 = .ok (.iload_n 1, 1) := by decide +kernel
theorem dX7_save_74 : decode cX7_save 74 = .ok (.iadd, 1) := by decide +kernel
theorem dX7_save_75 : decode cX7_save 75 = .ok (.aload_n 0, 1) := by decide +kernel
theorem dX7_save_76 : decode cX7_save 76 = .ok (.getfield 7, 3) := by decide +kernel
theorem dX7_save_79 : decode cX7_save 79 = .ok (.iload_n 1, 1) := by decide +kernel
theorem dX7_save_80 : decode cX7_save 80 = .ok (.iaload, 1) := by decide +kernel
theorem dX7_save_81 : decode cX7_save 81 = .ok (.iastore, 1) := by decide +kernel
theorem dX7_save_82 : decode cX7_save 82 = .ok (.iinc 1 1, 3) := by decide +kernel
theorem dX7_save_85 : decode cX7_save 85 = .ok (.goto (-31), 3) := by decide +kernel
theorem dX7_save_88 : decode cX7_save 88 = .ok (.aload_n 0, 1) := by decide +kernel
theorem dX7_save_89 : decode cX7_save 89 = .ok (.dup, 1) := by decide +kernel
theorem dX7_save_90 : decode cX7_save 90 = .ok (.getfield 143, 3) := by decide +kernel
theorem dX7_save_93 : decode cX7_save 93 = .ok (.iconst 1, 1) := by decide +kernel
theorem dX7_save_94 : decode cX7_save 94 = .ok (.iadd, 1) := by decide +kernel
theorem dX7_save_95 : decode cX7_save 95 = .ok (.putfield 143, 3) := by decide +kernel
theorem dX7_save_98 : decode cX7_save 98 = .ok (.return_, 1) := by decide +kernel
theorem pd_X7_save : (parseMethodDescriptor yX7_save.desc).map (fun d => d.parameters.length) = some 0 := by decide +kernel
def w_X7_save (zz : Nat → Nat) (a0 : Nat) (h : AH) (Q : AH → Prop) : Prop := okA h a0 7 ∧ jn (fun  (h_52 : AH) => ∃ I_54 : Nat → Int → AH → Prop, (∃ n, I_54 n (0 : Int) h_52) ∧ ∀ (n_54 : Nat) (x1_54 : Int) (h_54 : AH), I_54 n_54 x1_54 h_54 → ((((168 : Int) ≤ x1_54) → okA h_54 a0 7 ∧ inR ((hfI h_54 a0 2) + (1 : Int)) ∧ okP h_54 a0 7 ∧ ∀ h95 : AH, h95 = sfI h_54 a0 2 ((hfI h_54 a0 2) + (1 : Int)) → Q h95) ∧ ((¬ ((168 : Int) ≤ x1_54)) → okA h_54 a0 7 ∧ ∃ b62 : Nat, hfR h_54 a0 3 = some b62 ∧ okA h_54 a0 7 ∧ inR ((168 : Int) * (hfI h_54 a0 2)) ∧ inR (((168 : Int) * (hfI h_54 a0 2)) + x1_54) ∧ okA h_54 a0 7 ∧ ∃ b76 : Nat, hfR h_54 a0 1 = some b76 ∧ okI h_54 b76 x1_54 ∧ okW h_54 b62 (((168 : Int) * (hfI h_54 a0 2)) + x1_54) ∧ ∀ h81 : AH, h81 = saI h_54 b62 (u1 (haI h_54 b62) (((168 : Int) * (hfI h_54 a0 2)) + x1_54) (haI h_54 b76 x1_54)) → inR (x1_54 + 1) ∧ ∀ x1_82 : Int, x1_82 = (x1_54 + 1) → ∃ m, m < n_54 ∧ I_54 m x1_82 h81))) (fun k_52 : AH → Prop => ((¬ (hfI h a0 2) = (6 : Int)) → k_52  h) ∧ (((hfI h a0 2) = (6 : Int)) → ∃ I_13 : Nat → Int → AH → Prop, (∃ n, I_13 n (168 : Int) h) ∧ ∀ (n_13 : Nat) (x1_13 : Int) (h_13 : AH), I_13 n_13 x1_13 h_13 → ((((1008 : Int) ≤ x1_13) → okA h_13 a0 7 ∧ inR ((hfI h_13 a0 2) - (1 : Int)) ∧ okP h_13 a0 7 ∧ ∀ h49 : AH, h49 = sfI h_13 a0 2 ((hfI h_13 a0 2) - (1 : Int)) → k_52  h49) ∧ ((¬ ((1008 : Int) ≤ x1_13)) → okA h_13 a0 7 ∧ ∃ b21 : Nat, hfR h_13 a0 3 = some b21 ∧ inR (x1_13 - (168 : Int)) ∧ okA h_13 a0 7 ∧ ∃ b30 : Nat, hfR h_13 a0 3 = some b30 ∧ okI h_13 b30 x1_13 ∧ okW h_13 b21 (x1_13 - (168 : Int)) ∧ ∀ h35 : AH, h35 = saI h_13 b21 (u1 (haI h_13 b21) (x1_13 - (168 : Int)) (haI h_13 b30 x1_13)) → inR (x1_13 + 1) ∧ ∀ x1_36 : Int, x1_36 = (x1_13 + 1) → ∃ m, m < n_13 ∧ I_13 m x1_36 h35))))
set_option maxRecDepth 100000 in
set_option maxHeartbeats 4000000 in
theorem met_X7_save (G : GG) (l : Launch) : ∀ (As : List Value) (a0 : Nat) (h : AH) (Q : AH → Prop), As.map ab = List.map some ([vR a0] : List AV) → w_X7_save G.2.2 a0 h Q → Met l yX7_save (.code yX7_save cX7_save 2 none :: xTb) ({ frames := 0, cells := 0, slots := 0, locals := 0 } : Room) (PcA G As h) (QG G (oV Q)) 0 0 (frA G) := by
  intro As a0 h Q hA hw
  refine met_of hA (by decide) (Nat.le_of_ble_eq_true rfl) (fun p e s m args below meth c C hml hr hnm => ?_)
  unfold w_X7_save at hw
  refine aw_aload_n (pc := 0) C dX7_save_0 rfl rfl ?_
  obtain ⟨hp9, hw⟩ := hw
  refine aw_getI (pc := 1) C (ci := 7) (k := 2) ci7 (by decide) tw794 dX7_save_1 rfl hp9 ?_
  refine aw_bipush (pc := 4) C dX7_save_4 (i := (6 : Int)) (by decide) ?_
  obtain ⟨k_52, hk_52, hw⟩ := jn_out hw
  have J_52 : ∀  (h_52 : AH), k_52  h_52 → AW G p l e ({ frames := 0, cells := 0, slots := 0, locals := 0 } : Room) s m args below meth c 0 0 (MQ below (QG G (oV Q)) args s 0 0 (frA G)) 52 (eOf [(0, vR a0)]) [] h_52 := by
    intro  h_52 hw
    rw [hk_52] at hw
    refine aw_iconst (pc := 52) C dX7_save_52 (i := (0 : Int)) (by decide) ?_
    refine aw_istore_n (pc := 53) C dX7_save_53 rfl (by rw [hml]; decide) ?_
    obtain ⟨I_54, ⟨n9, hi9⟩, hst9⟩ := hw
    have L_54 : ∀ (n_54 : Nat) (x1_54 : Int) (h_54 : AH), I_54 n_54 x1_54 h_54 → AW G p l e ({ frames := 0, cells := 0, slots := 0, locals := 0 } : Room) s m args below meth c 0 0 (MQ below (QG G (oV Q)) args s 0 0 (frA G)) 54 (eOf [(0, vR a0), (1, vI x1_54)]) [] h_54 := by
      intro n_54
      induction n_54 using Nat.strongRecOn with
      | _ n_54 ih_54 =>
      intro x1_54 h_54 hi9
      have hw := hst9 n_54 x1_54 h_54 hi9
      refine aw_iload_n (pc := 54) C dX7_save_54 rfl rfl ?_
      refine aw_sipush (pc := 55) C dX7_save_55 (i := (168 : Int)) (by decide) ?_
      refine aw_icmp_ge (pc := 58) (tgt := 88) C dX7_save_58 (by decide) (fun hc9 => ?_) (fun hc9 => ?_)
      · have hw := hw.1 hc9
        refine aw_aload_n (pc := 88) C dX7_save_88 rfl rfl ?_
        refine aw_dup (pc := 89) C dX7_save_89 rfl ?_
        obtain ⟨hp9, hw⟩ := hw
        refine aw_getI (pc := 90) C (ci := 7) (k := 2) ci7 (by decide) tw794 dX7_save_90 rfl hp9 ?_
        refine aw_iconst (pc := 93) C dX7_save_93 (i := (1 : Int)) (by decide) ?_
        obtain ⟨hp9, hw⟩ := hw
        refine aw_iadd (pc := 94) C dX7_save_94 hp9 ?_
        obtain ⟨hp9, hw⟩ := hw
        refine aw_putI (pc := 95) C (ci := 7) (k := 2) ci7 (by decide) tw794 (Or.inl rfl) dX7_save_95 rfl hp9 (aw_nmH (fun h95 e9 => ?_))
        have hw := hw h95 e9
        exact aw_vret (pc := 98) C hr dX7_save_98 ⟨Nat.le_of_ble_eq_true rfl, Nat.le_of_ble_eq_true rfl⟩ ⟨rfl, hw⟩
      · have hw := hw.2 hc9
        refine aw_aload_n (pc := 61) C dX7_save_61 rfl rfl ?_
        obtain ⟨hp9, b62, hb9, hw⟩ := hw
        refine aw_getR (pc := 62) C (ci := 7) (k := 3) ci7 (by decide) tw795 dX7_save_62 rfl hp9 hb9 ?_
        refine aw_sipush (pc := 65) C dX7_save_65 (i := (168 : Int)) (by decide) ?_
        refine aw_aload_n (pc := 68) C dX7_save_68 rfl rfl ?_
        obtain ⟨hp9, hw⟩ := hw
        refine aw_getI (pc := 69) C (ci := 7) (k := 2) ci7 (by decide) tw794 dX7_save_69 rfl hp9 ?_
        obtain ⟨hp9, hw⟩ := hw
        refine aw_imul (pc := 72) C dX7_save_72 hp9 ?_
        refine aw_iload_n (pc := 73) C dX7_save_73 rfl rfl ?_
        obtain ⟨hp9, hw⟩ := hw
        refine aw_iadd (pc := 74) C dX7_save_74 hp9 ?_
        refine aw_aload_n (pc := 75) C dX7_save_75 rfl rfl ?_
        obtain ⟨hp9, b76, hb9, hw⟩ := hw
        refine aw_getR (pc := 76) C (ci := 7) (k := 1) ci7 (by decide) tw793 dX7_save_76 rfl hp9 hb9 ?_
        refine aw_iload_n (pc := 79) C dX7_save_79 rfl rfl ?_
        obtain ⟨⟨k9, hp9⟩, hw⟩ := hw
        refine aw_iald (pc := 80) C dX7_save_80 hp9 ?_
        obtain ⟨⟨k9, hp9⟩, hw⟩ := hw
        refine aw_iast (pc := 81) C dX7_save_81 hp9 (aw_nmH (fun h81 e9 => ?_))
        have hw := hw h81 e9
        obtain ⟨hp9, hw⟩ := hw
        refine aw_iincN (pc := 82) C dX7_save_82 (k := 1) (by decide) rfl (by rw [hml]; decide) hp9 (fun x1_82 e9 => ?_)
        have hw := hw x1_82 e9
        refine aw_goto (pc := 85) (tgt := 54) C dX7_save_85 (by decide) ?_
        obtain ⟨m9, hm9, hw⟩ := hw
        refine aw_sub [(0, vR a0), (1, vI x1_82)] ⟨rfl, rfl, trivial⟩ ?_
        exact ih_54 m9 hm9 _ _ hw
    refine aw_sub [(0, vR a0), (1, vI (0 : Int))] ⟨rfl, rfl, trivial⟩ ?_
    exact L_54 n9 _ _ hi9
  refine aw_icmp_ne (pc := 6) (tgt := 52) C dX7_save_6 (by decide) (fun hc9 => ?_) (fun hc9 => ?_)
  · have hw := hw.1 hc9
    refine aw_sub [(0, vR a0)] ⟨rfl, trivial⟩ ?_
    exact J_52  _ hw
  · have hw := hw.2 hc9
    refine aw_sipush (pc := 9) C dX7_save_9 (i := (168 : Int)) (by decide) ?_
    refine aw_istore_n (pc := 12) C dX7_save_12 rfl (by rw [hml]; decide) ?_
    obtain ⟨I_13, ⟨n9, hi9⟩, hst9⟩ := hw
    have L_13 : ∀ (n_13 : Nat) (x1_13 : Int) (h_13 : AH), I_13 n_13 x1_13 h_13 → AW G p l e ({ frames := 0, cells := 0, slots := 0, locals := 0 } : Room) s m args below meth c 0 0 (MQ below (QG G (oV Q)) args s 0 0 (frA G)) 13 (eOf [(0, vR a0), (1, vI x1_13)]) [] h_13 := by
      intro n_13
      induction n_13 using Nat.strongRecOn with
      | _ n_13 ih_13 =>
      intro x1_13 h_13 hi9
      have hw := hst9 n_13 x1_13 h_13 hi9
      refine aw_iload_n (pc := 13) C dX7_save_13 rfl rfl ?_
      refine aw_sipush (pc := 14) C dX7_save_14 (i := (1008 : Int)) (by decide) ?_
      refine aw_icmp_ge (pc := 17) (tgt := 42) C dX7_save_17 (by decide) (fun hc9 => ?_) (fun hc9 => ?_)
      · have hw := hw.1 hc9
        refine aw_aload_n (pc := 42) C dX7_save_42 rfl rfl ?_
        refine aw_dup (pc := 43) C dX7_save_43 rfl ?_
        obtain ⟨hp9, hw⟩ := hw
        refine aw_getI (pc := 44) C (ci := 7) (k := 2) ci7 (by decide) tw794 dX7_save_44 rfl hp9 ?_
        refine aw_iconst (pc := 47) C dX7_save_47 (i := (1 : Int)) (by decide) ?_
        obtain ⟨hp9, hw⟩ := hw
        refine aw_isub (pc := 48) C dX7_save_48 hp9 ?_
        obtain ⟨hp9, hw⟩ := hw
        refine aw_putI (pc := 49) C (ci := 7) (k := 2) ci7 (by decide) tw794 (Or.inl rfl) dX7_save_49 rfl hp9 (aw_nmH (fun h49 e9 => ?_))
        have hw := hw h49 e9
        refine aw_sub [(0, vR a0)] ⟨rfl, trivial⟩ ?_
        exact J_52  _ hw
      · have hw := hw.2 hc9
        refine aw_aload_n (pc := 20) C dX7_save_20 rfl rfl ?_
        obtain ⟨hp9, b21, hb9, hw⟩ := hw
        refine aw_getR (pc := 21) C (ci := 7) (k := 3) ci7 (by decide) tw795 dX7_save_21 rfl hp9 hb9 ?_
        refine aw_iload_n (pc := 24) C dX7_save_24 rfl rfl ?_
        refine aw_sipush (pc := 25) C dX7_save_25 (i := (168 : Int)) (by decide) ?_
        obtain ⟨hp9, hw⟩ := hw
        refine aw_isub (pc := 28) C dX7_save_28 hp9 ?_
        refine aw_aload_n (pc := 29) C dX7_save_29 rfl rfl ?_
        obtain ⟨hp9, b30, hb9, hw⟩ := hw
        refine aw_getR (pc := 30) C (ci := 7) (k := 3) ci7 (by decide) tw795 dX7_save_30 rfl hp9 hb9 ?_
        refine aw_iload_n (pc := 33) C dX7_save_33 rfl rfl ?_
        obtain ⟨⟨k9, hp9⟩, hw⟩ := hw
        refine aw_iald (pc := 34) C dX7_save_34 hp9 ?_
        obtain ⟨⟨k9, hp9⟩, hw⟩ := hw
        refine aw_iast (pc := 35) C dX7_save_35 hp9 (aw_nmH (fun h35 e9 => ?_))
        have hw := hw h35 e9
        obtain ⟨hp9, hw⟩ := hw
        refine aw_iincN (pc := 36) C dX7_save_36 (k := 1) (by decide) rfl (by rw [hml]; decide) hp9 (fun x1_36 e9 => ?_)
        have hw := hw x1_36 e9
        refine aw_goto (pc := 39) (tgt := 13) C dX7_save_39 (by decide) ?_
        obtain ⟨m9, hm9, hw⟩ := hw
        refine aw_sub [(0, vR a0), (1, vI x1_36)] ⟨rfl, rfl, trivial⟩ ?_
        exact ih_13 m9 hm9 _ _ hw
    refine aw_sub [(0, vR a0), (1, vI (168 : Int))] ⟨rfl, rfl, trivial⟩ ?_
    exact L_13 n9 _ _ hi9
theorem dX7_undo_0 : decode cX7_undo 0 = .ok (.aload_n 0, 1) := by decide +kernel
theorem dX7_undo_1 : decode cX7_undo 1 = .ok (.aload_n 0, 1) := by decide +kernel
theorem dX7_undo_2 : decode cX7_undo 2 = .ok (.getfield 143, 3) := by decide +kernel
theorem dX7_undo_5 : decode cX7_undo 5 = .ok (.ifCond .le 7, 3) := by decide +kernel
theorem dX7_undo_8 : decode cX7_undo 8 = .ok (.iconst 0, 1) := by decide +kernel
theorem dX7_undo_9 : decode cX7_undo 9 = .ok (.goto 4, 3) := by decide +kernel
theorem dX7_undo_12 : decode cX7_undo 12 = .ok (.iconst 1, 1) := by decide +kernel
theorem dX7_undo_13 : decode cX7_undo 13 = .ok (.putfield 61, 3) := by decide +kernel
theorem dX7_undo_16 : decode cX7_undo 16 = .ok (.aload_n 0, 1) := by decide +kernel
theorem dX7_undo_17 : decode cX7_undo 17 = .ok (.getfield 61, 3) := by decide +kernel
theorem dX7_undo_20 : decode cX7_undo 20 = .ok (.ifCond .le 5, 3) := by decide +kernel
theorem dX7_undo_23 : decode cX7_undo 23 = .ok (.iconst 0, 1) := by decide +kernel
theorem dX7_undo_24 : decode cX7_undo 24 = .ok (.ireturn, 1) := by decide +kernel
theorem dX7_undo_25 : decode cX7_undo 25 = .ok (.aload_n 0, 1) := by decide +kernel
theorem dX7_undo_26 : decode cX7_undo 26 = .ok (.dup, 1) := by decide +kernel
theorem dX7_undo_27 : decode cX7_undo 27 = .ok (.getfield 143, 3) := by decide +kernel
theorem dX7_undo_30 : decode cX7_undo 30 = .ok (.iconst 1, 1) := by decide +kernel
theorem dX7_undo_31 : decode cX7_undo 31 = .ok (.isub, 1) := by decide +kernel
theorem dX7_undo_32 : decode cX7_undo 32 = .ok (.putfield 143, 3) := by decide +kernel
theorem dX7_undo_35 : decode cX7_undo 35 = .ok (.iconst 0, 1) := by decide +kernel
theorem dX7_undo_36 : decode cX7_undo 36 = .ok (.istore_n 1, 1) := by decide +kernel
theorem dX7_undo_37 : decode cX7_undo 37 = .ok (.iload_n 1, 1) := by decide +kernel
theorem dX7_undo_38 : decode cX7_undo 38 = .ok (.sipush 168, 3) := by decide +kernel
theorem dX7_undo_41 : decode cX7_undo 41 = .ok (.if_icmp .ge 30, 3) := by decide +kernel
theorem dX7_undo_44 : decode cX7_undo 44 = .ok (.aload_n 0, 1) := by decide +kernel
theorem dX7_undo_45 : decode cX7_undo 45 = .ok (.getfield 7, 3) := by decide +kernel
theorem dX7_undo_48 : decode cX7_undo 48 = .ok (.iload_n 1, 1) := by decide +kernel
theorem dX7_undo_49 : decode cX7_undo 49 = .ok (.aload_n 0, 1) := by decide +kernel
theorem dX7_undo_50 : decode cX7_undo 50 = .ok (.getfield 13, 3) := by decide +kernel
theorem dX7_undo_53 : decode cX7_undo 53 = .ok (.sipush 168, 3) := by decide +kernel
theorem dX7_undo_56 : decode cX7_undo 56 = .ok (.aload_n 0, 1) := by decide +kernel
theorem dX7_undo_57 : decode cX7_undo 57 = .ok (.getfield 143, 3) := by decide +kernel
theorem dX7_undo_60 : decode cX7_undo 60 = .ok (.imul, 1) := by decide +kernel
theorem dX7_undo_61 : decode cX7_undo 61 = .ok (.iload_n 1, 1) := by decide +kernel
theorem dX7_undo_62 : decode cX7_undo 62 = .ok (.iadd, 1) := by decide +kernel
theorem dX7_undo_63 : decode cX7_undo 63 = .ok (.iaload, 1) := by decide +kernel
theorem dX7_undo_64 : decode cX7_undo 64 = .ok (.iastore, 1) := by decide +kernel
theorem dX7_undo_65 : decode cX7_undo 65 = .ok (.iinc 1 1, 3) := by decide +kernel
theorem dX7_undo_68 : decode cX7_undo 68 = .ok (.goto (-31), 3) := by decide +kernel
theorem dX7_undo_71 : decode cX7_undo 71 = .ok (.aload_n 0, 1) := by decide +kernel
theorem dX7_undo_72 : decode cX7_undo 72 = .ok (.getfield 143, 3) := by decide +kernel
theorem dX7_undo_75 : decode cX7_undo 75 = .ok (.ireturn, 1) := by decide +kernel
theorem pd_X7_undo : (parseMethodDescriptor yX7_undo.desc).map (fun d => d.parameters.length) = some 0 := by decide +kernel
def w_X7_undo (zz : Nat → Nat) (a0 : Nat) (h : AH) (Q : Int → AH → Prop) : Prop := okA h a0 7 ∧ jn (fun (t1_13 : Int) (h_13 : AH) => okP h_13 a0 7 ∧ ∀ h13 : AH, h13 = sfI h_13 a0 0 t1_13 → okA h13 a0 7 ∧ (((hfI h13 a0 0) ≤ 0) → okA h13 a0 7 ∧ inR ((hfI h13 a0 2) - (1 : Int)) ∧ okP h13 a0 7 ∧ ∀ h32 : AH, h32 = sfI h13 a0 2 ((hfI h13 a0 2) - (1 : Int)) → ∃ I_37 : Nat → Int → AH → Prop, (∃ n, I_37 n (0 : Int) h32) ∧ ∀ (n_37 : Nat) (x1_37 : Int) (h_37 : AH), I_37 n_37 x1_37 h_37 → ((((168 : Int) ≤ x1_37) → okA h_37 a0 7 ∧ Q (hfI h_37 a0 2) h_37) ∧ ((¬ ((168 : Int) ≤ x1_37)) → okA h_37 a0 7 ∧ ∃ b45 : Nat, hfR h_37 a0 1 = some b45 ∧ okA h_37 a0 7 ∧ ∃ b50 : Nat, hfR h_37 a0 3 = some b50 ∧ okA h_37 a0 7 ∧ inR ((168 : Int) * (hfI h_37 a0 2)) ∧ inR (((168 : Int) * (hfI h_37 a0 2)) + x1_37) ∧ okI h_37 b50 (((168 : Int) * (hfI h_37 a0 2)) + x1_37) ∧ okW h_37 b45 x1_37 ∧ ∀ h64 : AH, h64 = saI h_37 b45 (u1 (haI h_37 b45) x1_37 (haI h_37 b50 (((168 : Int) * (hfI h_37 a0 2)) + x1_37))) → inR (x1_37 + 1) ∧ ∀ x1_65 : Int, x1_65 = (x1_37 + 1) → ∃ m, m < n_37 ∧ I_37 m x1_65 h64))) ∧ ((¬ ((hfI h13 a0 0) ≤ 0)) → Q (0 : Int) h13)) (fun k_13 : Int → AH → Prop => (((hfI h a0 2) ≤ 0) → k_13 (1 : Int) h) ∧ ((¬ ((hfI h a0 2) ≤ 0)) → k_13 (0 : Int) h))
set_option maxRecDepth 100000 in
set_option maxHeartbeats 4000000 in
theorem met_X7_undo (G : GG) (l : Launch) : ∀ (As : List Value) (a0 : Nat) (h : AH) (Q : Int → AH → Prop), As.map ab = List.map some ([vR a0] : List AV) → w_X7_undo G.2.2 a0 h Q → Met l yX7_undo (.code yX7_undo cX7_undo 2 (some .int) :: xTb) ({ frames := 0, cells := 0, slots := 0, locals := 0 } : Room) (PcA G As h) (QG G (oI Q)) 0 0 (frA G) := by
  intro As a0 h Q hA hw
  refine met_of hA (by decide) (Nat.le_of_ble_eq_true rfl) (fun p e s m args below meth c C hml hr hnm => ?_)
  unfold w_X7_undo at hw
  refine aw_aload_n (pc := 0) C dX7_undo_0 rfl rfl ?_
  refine aw_aload_n (pc := 1) C dX7_undo_1 rfl rfl ?_
  obtain ⟨hp9, hw⟩ := hw
  refine aw_getI (pc := 2) C (ci := 7) (k := 2) ci7 (by decide) tw794 dX7_undo_2 rfl hp9 ?_
  obtain ⟨k_13, hk_13, hw⟩ := jn_out hw
  have J_13 : ∀ (t1_13 : Int) (h_13 : AH), k_13 t1_13 h_13 → AW G p l e ({ frames := 0, cells := 0, slots := 0, locals := 0 } : Room) s m args below meth c 0 0 (MQ below (QG G (oI Q)) args s 0 0 (frA G)) 13 (eOf [(0, vR a0)]) [vI t1_13, vR a0] h_13 := by
    intro t1_13 h_13 hw
    rw [hk_13] at hw
    obtain ⟨hp9, hw⟩ := hw
    refine aw_putI (pc := 13) C (ci := 7) (k := 0) ci7 (by decide) tw792 (Or.inl rfl) dX7_undo_13 rfl hp9 (aw_nmH (fun h13 e9 => ?_))
    have hw := hw h13 e9
    refine aw_aload_n (pc := 16) C dX7_undo_16 rfl rfl ?_
    obtain ⟨hp9, hw⟩ := hw
    refine aw_getI (pc := 17) C (ci := 7) (k := 0) ci7 (by decide) tw792 dX7_undo_17 rfl hp9 ?_
    refine aw_if_le (pc := 20) (tgt := 25) C dX7_undo_20 (by decide) (fun hc9 => ?_) (fun hc9 => ?_)
    · have hw := hw.1 hc9
      refine aw_aload_n (pc := 25) C dX7_undo_25 rfl rfl ?_
      refine aw_dup (pc := 26) C dX7_undo_26 rfl ?_
      obtain ⟨hp9, hw⟩ := hw
      refine aw_getI (pc := 27) C (ci := 7) (k := 2) ci7 (by decide) tw794 dX7_undo_27 rfl hp9 ?_
      refine aw_iconst (pc := 30) C dX7_undo_30 (i := (1 : Int)) (by decide) ?_
      obtain ⟨hp9, hw⟩ := hw
      refine aw_isub (pc := 31) C dX7_undo_31 hp9 ?_
      obtain ⟨hp9, hw⟩ := hw
      refine aw_putI (pc := 32) C (ci := 7) (k := 2) ci7 (by decide) tw794 (Or.inl rfl) dX7_undo_32 rfl hp9 (aw_nmH (fun h32 e9 => ?_))
      have hw := hw h32 e9
      refine aw_iconst (pc := 35) C dX7_undo_35 (i := (0 : Int)) (by decide) ?_
      refine aw_istore_n (pc := 36) C dX7_undo_36 rfl (by rw [hml]; decide) ?_
      obtain ⟨I_37, ⟨n9, hi9⟩, hst9⟩ := hw
      have L_37 : ∀ (n_37 : Nat) (x1_37 : Int) (h_37 : AH), I_37 n_37 x1_37 h_37 → AW G p l e ({ frames := 0, cells := 0, slots := 0, locals := 0 } : Room) s m args below meth c 0 0 (MQ below (QG G (oI Q)) args s 0 0 (frA G)) 37 (eOf [(0, vR a0), (1, vI x1_37)]) [] h_37 := by
        intro n_37
        induction n_37 using Nat.strongRecOn with
        | _ n_37 ih_37 =>
        intro x1_37 h_37 hi9
        have hw := hst9 n_37 x1_37 h_37 hi9
        refine aw_iload_n (pc := 37) C dX7_undo_37 rfl rfl ?_
        refine aw_sipush (pc := 38) C dX7_undo_38 (i := (168 : Int)) (by decide) ?_
        refine aw_icmp_ge (pc := 41) (tgt := 71) C dX7_undo_41 (by decide) (fun hc9 => ?_) (fun hc9 => ?_)
        · have hw := hw.1 hc9
          refine aw_aload_n (pc := 71) C dX7_undo_71 rfl rfl ?_
          obtain ⟨hp9, hw⟩ := hw
          refine aw_getI (pc := 72) C (ci := 7) (k := 2) ci7 (by decide) tw794 dX7_undo_72 rfl hp9 ?_
          exact aw_iret (pc := 75) C hr dX7_undo_75 ⟨Nat.le_of_ble_eq_true rfl, Nat.le_of_ble_eq_true rfl⟩ ⟨_, rfl, hw⟩
        · have hw := hw.2 hc9
          refine aw_aload_n (pc := 44) C dX7_undo_44 rfl rfl ?_
          obtain ⟨hp9, b45, hb9, hw⟩ := hw
          refine aw_getR (pc := 45) C (ci := 7) (k := 1) ci7 (by decide) tw793 dX7_undo_45 rfl hp9 hb9 ?_
          refine aw_iload_n (pc := 48) C dX7_undo_48 rfl rfl ?_
          refine aw_aload_n (pc := 49) C dX7_undo_49 rfl rfl ?_
          obtain ⟨hp9, b50, hb9, hw⟩ := hw
          refine aw_getR (pc := 50) C (ci := 7) (k := 3) ci7 (by decide) tw795 dX7_undo_50 rfl hp9 hb9 ?_
          refine aw_sipush (pc := 53) C dX7_undo_53 (i := (168 : Int)) (by decide) ?_
          refine aw_aload_n (pc := 56) C dX7_undo_56 rfl rfl ?_
          obtain ⟨hp9, hw⟩ := hw
          refine aw_getI (pc := 57) C (ci := 7) (k := 2) ci7 (by decide) tw794 dX7_undo_57 rfl hp9 ?_
          obtain ⟨hp9, hw⟩ := hw
          refine aw_imul (pc := 60) C dX7_undo_60 hp9 ?_
          refine aw_iload_n (pc := 61) C dX7_undo_61 rfl rfl ?_
          obtain ⟨hp9, hw⟩ := hw
          refine aw_iadd (pc := 62) C dX7_undo_62 hp9 ?_
          obtain ⟨⟨k9, hp9⟩, hw⟩ := hw
          refine aw_iald (pc := 63) C dX7_undo_63 hp9 ?_
          obtain ⟨⟨k9, hp9⟩, hw⟩ := hw
          refine aw_iast (pc := 64) C dX7_undo_64 hp9 (aw_nmH (fun h64 e9 => ?_))
          have hw := hw h64 e9
          obtain ⟨hp9, hw⟩ := hw
          refine aw_iincN (pc := 65) C dX7_undo_65 (k := 1) (by decide) rfl (by rw [hml]; decide) hp9 (fun x1_65 e9 => ?_)
          have hw := hw x1_65 e9
          refine aw_goto (pc := 68) (tgt := 37) C dX7_undo_68 (by decide) ?_
          obtain ⟨m9, hm9, hw⟩ := hw
          refine aw_sub [(0, vR a0), (1, vI x1_65)] ⟨rfl, rfl, trivial⟩ ?_
          exact ih_37 m9 hm9 _ _ hw
      refine aw_sub [(0, vR a0), (1, vI (0 : Int))] ⟨rfl, rfl, trivial⟩ ?_
      exact L_37 n9 _ _ hi9
    · have hw := hw.2 hc9
      refine aw_iconst (pc := 23) C dX7_undo_23 (i := (0 : Int)) (by decide) ?_
      exact aw_iret (pc := 24) C hr dX7_undo_24 ⟨Nat.le_of_ble_eq_true rfl, Nat.le_of_ble_eq_true rfl⟩ ⟨_, rfl, hw⟩
  refine aw_if_le (pc := 5) (tgt := 12) C dX7_undo_5 (by decide) (fun hc9 => ?_) (fun hc9 => ?_)
  · have hw := hw.1 hc9
    refine aw_iconst (pc := 12) C dX7_undo_12 (i := (1 : Int)) (by decide) ?_
    refine aw_sub [(0, vR a0)] ⟨rfl, trivial⟩ ?_
    exact J_13 _ _ hw
  · have hw := hw.2 hc9
    refine aw_iconst (pc := 8) C dX7_undo_8 (i := (0 : Int)) (by decide) ?_
    refine aw_goto (pc := 9) (tgt := 13) C dX7_undo_9 (by decide) ?_
    refine aw_sub [(0, vR a0)] ⟨rfl, trivial⟩ ?_
    exact J_13 _ _ hw
