/-! THE METHODS, BY PROGRAM (wip/whole/gen.py): what each means (w_..), and its contract (met_..) -/
theorem dJ7_fill_53178_0 : decode cJ7_fill_53178 0 = .ok (.iconst 0, 1) := by decide +kernel
theorem dJ7_fill_53178_1 : decode cJ7_fill_53178 1 = .ok (.istore_n 2, 1) := by decide +kernel
theorem dJ7_fill_53178_2 : decode cJ7_fill_53178 2 = .ok (.aload_n 0, 1) := by decide +kernel
theorem dJ7_fill_53178_3 : decode cJ7_fill_53178 3 = .ok (.arraylength, 1) := by decide +kernel
theorem dJ7_fill_53178_4 : decode cJ7_fill_53178 4 = .ok (.istore_n 3, 1) := by decide +kernel
theorem dJ7_fill_53178_5 : decode cJ7_fill_53178 5 = .ok (.iload_n 2, 1) := by decide +kernel
theorem dJ7_fill_53178_6 : decode cJ7_fill_53178 6 = .ok (.iload_n 3, 1) := by decide +kernel
theorem dJ7_fill_53178_7 : decode cJ7_fill_53178 7 = .ok (.if_icmp .ge 13, 3) := by decide +kernel
theorem dJ7_fill_53178_10 : decode cJ7_fill_53178 10 = .ok (.aload_n 0, 1) := by decide +kernel
theorem dJ7_fill_53178_11 : decode cJ7_fill_53178 11 = .ok (.iload_n 2, 1) := by decide +kernel
theorem dJ7_fill_53178_12 : decode cJ7_fill_53178 12 = .ok (.iload_n 1, 1) := by decide +kernel
theorem dJ7_fill_53178_13 : decode cJ7_fill_53178 13 = .ok (.iastore, 1) := by decide +kernel
theorem dJ7_fill_53178_14 : decode cJ7_fill_53178 14 = .ok (.iinc 2 1, 3) := by decide +kernel
theorem dJ7_fill_53178_17 : decode cJ7_fill_53178 17 = .ok (.goto (-12), 3) := by decide +kernel
theorem dJ7_fill_53178_20 : decode cJ7_fill_53178 20 = .ok (.return_, 1) := by decide +kernel
theorem pd_J7_fill_53178 : (parseMethodDescriptor yJ7_fill_53178.desc).map (fun d => d.parameters.length) = some 2 := by decide +kernel
def w_J7_fill_53178 (zz : Nat → Nat) (a0 : Nat) (a1 : Int) (h : AH) (Q : AH → Prop) : Prop := ∃ k3 : Nat, hkd h a0 = (1, k3) ∧ ∀ x3_4 : Int, x3_4 = (k3 : Int) → ∃ I_5 : Nat → Int → AH → Prop, (∃ n, I_5 n (0 : Int) h) ∧ ∀ (n_5 : Nat) (x2_5 : Int) (h_5 : AH), I_5 n_5 x2_5 h_5 → (((x3_4 ≤ x2_5) → Q h_5) ∧ ((¬ (x3_4 ≤ x2_5)) → okW h_5 a0 x2_5 ∧ ∀ h13 : AH, h13 = saI h_5 a0 (u1 (haI h_5 a0) x2_5 a1) → inR (x2_5 + 1) ∧ ∀ x2_14 : Int, x2_14 = (x2_5 + 1) → ∃ m, m < n_5 ∧ I_5 m x2_14 h13))
set_option maxRecDepth 100000 in
set_option maxHeartbeats 4000000 in
theorem met_J7_fill_53178 (G : GG) (l : Launch) : ∀ (As : List Value) (a0 : Nat) (a1 : Int) (h : AH) (Q : AH → Prop), As.map ab = List.map some ([vR a0, vI a1] : List AV) → w_J7_fill_53178 G.2.2 a0 a1 h Q → Met l yJ7_fill_53178 (.code yJ7_fill_53178 cJ7_fill_53178 4 none :: xTb) ({ frames := 0, cells := 0, slots := 0, locals := 0 } : Room) (PcA G As h) (QG G (oV Q)) 0 0 (frA G) := by
  intro As a0 a1 h Q hA hw
  refine met_of hA (by decide) (Nat.le_of_ble_eq_true rfl) (fun p e s m args below meth c C hml hr hnm => ?_)
  unfold w_J7_fill_53178 at hw
  refine aw_iconst (pc := 0) C dJ7_fill_53178_0 (i := (0 : Int)) (by decide) ?_
  refine aw_istore_n (pc := 1) C dJ7_fill_53178_1 rfl (by rw [hml]; decide) ?_
  refine aw_aload_n (pc := 2) C dJ7_fill_53178_2 rfl rfl ?_
  obtain ⟨k3, hp9, hw⟩ := hw
  refine aw_alen (pc := 3) C dJ7_fill_53178_3 hp9 ?_
  refine aw_nmI (fun x3_4 e9 => ?_)
  have hw := hw x3_4 e9
  refine aw_istore_n (pc := 4) C dJ7_fill_53178_4 rfl (by rw [hml]; decide) ?_
  obtain ⟨I_5, ⟨n9, hi9⟩, hst9⟩ := hw
  have L_5 : ∀ (n_5 : Nat) (x2_5 : Int) (h_5 : AH), I_5 n_5 x2_5 h_5 → AW G p l e ({ frames := 0, cells := 0, slots := 0, locals := 0 } : Room) s m args below meth c 0 0 (MQ below (QG G (oV Q)) args s 0 0 (frA G)) 5 (eOf [(0, vR a0), (1, vI a1), (2, vI x2_5), (3, vI x3_4)]) [] h_5 := by
    intro n_5
    induction n_5 using Nat.strongRecOn with
    | _ n_5 ih_5 =>
    intro x2_5 h_5 hi9
    have hw := hst9 n_5 x2_5 h_5 hi9
    refine aw_iload_n (pc := 5) C dJ7_fill_53178_5 rfl rfl ?_
    refine aw_iload_n (pc := 6) C dJ7_fill_53178_6 rfl rfl ?_
    refine aw_icmp_ge (pc := 7) (tgt := 20) C dJ7_fill_53178_7 (by decide) (fun hc9 => ?_) (fun hc9 => ?_)
    · have hw := hw.1 hc9
      exact aw_vret (pc := 20) C hr dJ7_fill_53178_20 ⟨Nat.le_of_ble_eq_true rfl, Nat.le_of_ble_eq_true rfl⟩ ⟨rfl, hw⟩
    · have hw := hw.2 hc9
      refine aw_aload_n (pc := 10) C dJ7_fill_53178_10 rfl rfl ?_
      refine aw_iload_n (pc := 11) C dJ7_fill_53178_11 rfl rfl ?_
      refine aw_iload_n (pc := 12) C dJ7_fill_53178_12 rfl rfl ?_
      obtain ⟨⟨k9, hp9⟩, hw⟩ := hw
      refine aw_iast (pc := 13) C dJ7_fill_53178_13 hp9 (aw_nmH (fun h13 e9 => ?_))
      have hw := hw h13 e9
      obtain ⟨hp9, hw⟩ := hw
      refine aw_iincN (pc := 14) C dJ7_fill_53178_14 (k := 1) (by decide) rfl (by rw [hml]; decide) hp9 (fun x2_14 e9 => ?_)
      have hw := hw x2_14 e9
      refine aw_goto (pc := 17) (tgt := 5) C dJ7_fill_53178_17 (by decide) ?_
      obtain ⟨m9, hm9, hw⟩ := hw
      refine aw_sub [(0, vR a0), (1, vI a1), (2, vI x2_14), (3, vI x3_4)] ⟨rfl, rfl, rfl, rfl, trivial⟩ ?_
      exact ih_5 m9 hm9 _ _ hw
  refine aw_sub [(0, vR a0), (1, vI a1), (2, vI (0 : Int)), (3, vI x3_4)] ⟨rfl, rfl, rfl, rfl, trivial⟩ ?_
  exact L_5 n9 _ _ hi9
theorem dX6_isLetter_0 : decode cX6_isLetter 0 = .ok (.iload_n 0, 1) := by decide +kernel
theorem dX6_isLetter_1 : decode cX6_isLetter 1 = .ok (.bipush 97, 2) := by decide +kernel
theorem dX6_isLetter_3 : decode cX6_isLetter 3 = .ok (.if_icmp .lt 13, 3) := by decide +kernel
theorem dX6_isLetter_6 : decode cX6_isLetter 6 = .ok (.iload_n 0, 1) := by decide +kernel
theorem dX6_isLetter_7 : decode cX6_isLetter 7 = .ok (.bipush 122, 2) := by decide +kernel
theorem dX6_isLetter_9 : decode cX6_isLetter 9 = .ok (.if_icmp .gt 7, 3) := by decide +kernel
theorem dX6_isLetter_12 : decode cX6_isLetter 12 = .ok (.iconst 1, 1) := by decide +kernel
theorem dX6_isLetter_13 : decode cX6_isLetter 13 = .ok (.goto 4, 3) := by decide +kernel
theorem dX6_isLetter_16 : decode cX6_isLetter 16 = .ok (.iconst 0, 1) := by decide +kernel
theorem dX6_isLetter_17 : decode cX6_isLetter 17 = .ok (.ireturn, 1) := by decide +kernel
theorem pd_X6_isLetter : (parseMethodDescriptor yX6_isLetter.desc).map (fun d => d.parameters.length) = some 1 := by decide +kernel
def w_X6_isLetter (zz : Nat → Nat) (a0 : Int) (h : AH) (Q : Int → AH → Prop) : Prop := jn (fun (t0_17 : Int) (h_17 : AH) => (t0_17 = 0 ∨ t0_17 = 1) ∧ Q t0_17 h_17) (fun k_17 : Int → AH → Prop => jn (fun  (h_16 : AH) => k_17 (0 : Int) h_16) (fun k_16 : AH → Prop => ((a0 < (97 : Int)) → k_16  h) ∧ ((¬ (a0 < (97 : Int))) → (((122 : Int) < a0) → k_16  h) ∧ ((¬ ((122 : Int) < a0)) → k_17 (1 : Int) h))))
set_option maxRecDepth 100000 in
set_option maxHeartbeats 4000000 in
theorem met_X6_isLetter (G : GG) (l : Launch) : ∀ (As : List Value) (a0 : Int) (h : AH) (Q : Int → AH → Prop), As.map ab = List.map some ([vI a0] : List AV) → w_X6_isLetter G.2.2 a0 h Q → Met l yX6_isLetter (.code yX6_isLetter cX6_isLetter 1 (some .boolean) :: xTb) ({ frames := 0, cells := 0, slots := 0, locals := 0 } : Room) (PcA G As h) (QG G (oI Q)) 0 0 (frA G) := by
  intro As a0 h Q hA hw
  refine met_of hA (by decide) (Nat.le_of_ble_eq_true rfl) (fun p e s m args below meth c C hml hr hnm => ?_)
  unfold w_X6_isLetter at hw
  refine aw_iload_n (pc := 0) C dX6_isLetter_0 rfl rfl ?_
  refine aw_bipush (pc := 1) C dX6_isLetter_1 (i := (97 : Int)) (by decide) ?_
  obtain ⟨k_17, hk_17, hw⟩ := jn_out hw
  have J_17 : ∀ (t0_17 : Int) (h_17 : AH), k_17 t0_17 h_17 → AW G p l e ({ frames := 0, cells := 0, slots := 0, locals := 0 } : Room) s m args below meth c 0 0 (MQ below (QG G (oI Q)) args s 0 0 (frA G)) 17 (eOf []) [vI t0_17] h_17 := by
    intro t0_17 h_17 hw
    rw [hk_17] at hw
    obtain ⟨hp9, hw⟩ := hw
    exact aw_zret (pc := 17) C hr dX6_isLetter_17 ⟨Nat.le_of_ble_eq_true rfl, Nat.le_of_ble_eq_true rfl⟩ hp9 ⟨_, rfl, hw⟩
  obtain ⟨k_16, hk_16, hw⟩ := jn_out hw
  have J_16 : ∀  (h_16 : AH), k_16  h_16 → AW G p l e ({ frames := 0, cells := 0, slots := 0, locals := 0 } : Room) s m args below meth c 0 0 (MQ below (QG G (oI Q)) args s 0 0 (frA G)) 16 (eOf []) [] h_16 := by
    intro  h_16 hw
    rw [hk_16] at hw
    refine aw_iconst (pc := 16) C dX6_isLetter_16 (i := (0 : Int)) (by decide) ?_
    refine aw_sub [] trivial ?_
    exact J_17 _ _ hw
  refine aw_icmp_lt (pc := 3) (tgt := 16) C dX6_isLetter_3 (by decide) (fun hc9 => ?_) (fun hc9 => ?_)
  · have hw := hw.1 hc9
    refine aw_sub [] trivial ?_
    exact J_16  _ hw
  · have hw := hw.2 hc9
    refine aw_iload_n (pc := 6) C dX6_isLetter_6 rfl rfl ?_
    refine aw_bipush (pc := 7) C dX6_isLetter_7 (i := (122 : Int)) (by decide) ?_
    refine aw_icmp_gt (pc := 9) (tgt := 16) C dX6_isLetter_9 (by decide) (fun hc9 => ?_) (fun hc9 => ?_)
    · have hw := hw.1 hc9
      refine aw_sub [] trivial ?_
      exact J_16  _ hw
    · have hw := hw.2 hc9
      refine aw_iconst (pc := 12) C dX6_isLetter_12 (i := (1 : Int)) (by decide) ?_
      refine aw_goto (pc := 13) (tgt := 17) C dX6_isLetter_13 (by decide) ?_
      refine aw_sub [] trivial ?_
      exact J_17 _ _ hw
theorem dX0_read_0 : decode cX0_read 0 = .ok (.aload_n 0, 1) := by decide +kernel
theorem dX0_read_1 : decode cX0_read 1 = .ok (.getfield 15, 3) := by decide +kernel
theorem dX0_read_4 : decode cX0_read 4 = .ok (.bipush 32, 2) := by decide +kernel
theorem dX0_read_6 : decode cX0_read 6 = .ok (.invokestatic 22, 3) := by decide +kernel
theorem dX0_read_9 : decode cX0_read 9 = .ok (.iconst 0, 1) := by decide +kernel
theorem dX0_read_10 : decode cX0_read 10 = .ok (.istore_n 1, 1) := by decide +kernel
theorem dX0_read_11 : decode cX0_read 11 = .ok (.iconst 0, 1) := by decide +kernel
theorem dX0_read_12 : decode cX0_read 12 = .ok (.istore_n 2, 1) := by decide +kernel
theorem dX0_read_13 : decode cX0_read 13 = .ok (.iconst 0, 1) := by decide +kernel
theorem dX0_read_14 : decode cX0_read 14 = .ok (.istore_n 3, 1) := by decide +kernel
theorem dX0_read_15 : decode cX0_read 15 = .ok (.iconst 0, 1) := by decide +kernel
theorem dX0_read_16 : decode cX0_read 16 = .ok (.istore 4, 2) := by decide +kernel
theorem dX0_read_18 : decode cX0_read 18 = .ok (.iload 4, 2) := by decide +kernel
theorem dX0_read_20 : decode cX0_read 20 = .ok (.aload_n 0, 1) := by decide +kernel
theorem dX0_read_21 : decode cX0_read 21 = .ok (.getfield 18, 3) := by decide +kernel
theorem dX0_read_24 : decode cX0_read 24 = .ok (.if_icmp .ge 102, 3) := by decide +kernel
theorem dX0_read_27 : decode cX0_read 27 = .ok (.aload_n 0, 1) := by decide +kernel
theorem dX0_read_28 : decode cX0_read 28 = .ok (.getfield 9, 3) := by decide +kernel
theorem dX0_read_31 : decode cX0_read 31 = .ok (.iload 4, 2) := by decide +kernel
theorem dX0_read_33 : decode cX0_read 33 = .ok (.iaload, 1) := by decide +kernel
theorem dX0_read_34 : decode cX0_read 34 = .ok (.istore 5, 2) := by decide +kernel
theorem dX0_read_36 : decode cX0_read 36 = .ok (.iload 5, 2) := by decide +kernel
theorem dX0_read_38 : decode cX0_read 38 = .ok (.bipush 47, 2) := by decide +kernel
theorem dX0_read_40 : decode cX0_read 40 = .ok (.if_icmp .ne 16, 3) := by decide +kernel
theorem dX0_read_43 : decode cX0_read 43 = .ok (.iinc 1 1, 3) := by decide +kernel
theorem dX0_read_46 : decode cX0_read 46 = .ok (.iconst 0, 1) := by decide +kernel
theorem dX0_read_47 : decode cX0_read 47 = .ok (.istore_n 2, 1) := by decide +kernel
theorem dX0_read_48 : decode cX0_read 48 = .ok (.iload_n 1, 1) := by decide +kernel
theorem dX0_read_49 : decode cX0_read 49 = .ok (.iconst 5, 1) := by decide +kernel
theorem dX0_read_50 : decode cX0_read 50 = .ok (.if_icmp .lt 70, 3) := by decide +kernel
theorem dX0_read_53 : decode cX0_read 53 = .ok (.iload 4, 2) := by decide +kernel
theorem dX0_read_55 : decode cX0_read 55 = .ok (.ireturn, 1) := by decide +kernel
theorem dX0_read_56 : decode cX0_read 56 = .ok (.iload 5, 2) := by decide +kernel
theorem dX0_read_58 : decode cX0_read 58 = .ok (.bipush 46, 2) := by decide +kernel
theorem dX0_read_60 : decode cX0_read 60 = .ok (.if_icmp .ne 15, 3) := by decide +kernel
theorem dX0_read_63 : decode cX0_read 63 = .ok (.iload_n 2, 1) := by decide +kernel
theorem dX0_read_64 : decode cX0_read 64 = .ok (.bipush 16, 2) := by decide +kernel
theorem dX0_read_66 : decode cX0_read 66 = .ok (.if_icmp .ge 9, 3) := by decide +kernel
theorem dX0_read_69 : decode cX0_read 69 = .ok (.iinc 2 1, 3) := by decide +kernel
theorem dX0_read_72 : decode cX0_read 72 = .ok (.goto 48, 3) := by decide +kernel
theorem dX0_read_75 : decode cX0_read 75 = .ok (.iload 5, 2) := by decide +kernel
theorem dX0_read_77 : decode cX0_read 77 = .ok (.invokestatic 28, 3) := by decide +kernel
theorem dX0_read_80 : decode cX0_read 80 = .ok (.ifCond .eq 37, 3) := by decide +kernel
theorem dX0_read_83 : decode cX0_read 83 = .ok (.iload_n 2, 1) := by decide +kernel
theorem dX0_read_84 : decode cX0_read 84 = .ok (.bipush 16, 2) := by decide +kernel
theorem dX0_read_86 : decode cX0_read 86 = .ok (.if_icmp .ge 31, 3) := by decide +kernel
theorem dX0_read_89 : decode cX0_read 89 = .ok (.iload_n 3, 1) := by decide +kernel
theorem dX0_read_90 : decode cX0_read 90 = .ok (.bipush 40, 2) := by decide +kernel
theorem dX0_read_92 : decode cX0_read 92 = .ok (.if_icmp .ge 25, 3) := by decide +kernel
theorem dX0_read_95 : decode cX0_read 95 = .ok (.aload_n 0, 1) := by decide +kernel
theorem dX0_read_96 : decode cX0_read 96 = .ok (.getfield 15, 3) := by decide +kernel
theorem dX0_read_99 : decode cX0_read 99 = .ok (.bipush 16, 2) := by decide +kernel
theorem dX0_read_101 : decode cX0_read 101 = .ok (.iload_n 1, 1) := by decide +kernel
theorem dX0_read_102 : decode cX0_read 102 = .ok (.imul, 1) := by decide +kernel
theorem dX0_read_103 : decode cX0_read 103 = .ok (.iload_n 2, 1) := by decide +kernel
theorem dX0_read_104 : decode cX0_read 104 = .ok (.iadd, 1) := by decide +kernel
theorem dX0_read_105 : decode cX0_read 105 = .ok (.iload 5, 2) := by decide +kernel
theorem dX0_read_107 : decode cX0_read 107 = .ok (.iastore, 1) := by decide +kernel
theorem dX0_read_108 : decode cX0_read 108 = .ok (.iinc 2 1, 3) := by decide +kernel
theorem dX0_read_111 : decode cX0_read 111 = .ok (.iinc 3 1, 3) := by decide +kernel
theorem dX0_read_114 : decode cX0_read 114 = .ok (.goto 6, 3) := by decide +kernel
theorem dX0_read_117 : decode cX0_read 117 = .ok (.iload 4, 2) := by decide +kernel
theorem dX0_read_119 : decode cX0_read 119 = .ok (.ireturn, 1) := by decide +kernel
theorem dX0_read_120 : decode cX0_read 120 = .ok (.iinc 4 1, 3) := by decide +kernel
theorem dX0_read_123 : decode cX0_read 123 = .ok (.goto (-105), 3) := by decide +kernel
theorem dX0_read_126 : decode cX0_read 126 = .ok (.aload_n 0, 1) := by decide +kernel
theorem dX0_read_127 : decode cX0_read 127 = .ok (.getfield 18, 3) := by decide +kernel
theorem dX0_read_130 : decode cX0_read 130 = .ok (.ireturn, 1) := by decide +kernel
theorem pd_X0_read : (parseMethodDescriptor yX0_read.desc).map (fun d => d.parameters.length) = some 0 := by decide +kernel
def w_X0_read (zz : Nat → Nat) (a0 : Nat) (h : AH) (Q : Int → AH → Prop) : Prop := okA h a0 0 ∧ ∃ b1 : Nat, hfR h a0 1 = some b1 ∧ w_J7_fill_53178 zz b1 (32 : Int) h (fun  (h6 : AH) => ∃ I_18 : Nat → Int → Int → Int → Int → AH → Prop, (∃ n, I_18 n (0 : Int) (0 : Int) (0 : Int) (0 : Int) h6) ∧ ∀ (n_18 : Nat) (x1_18 : Int) (x2_18 : Int) (x3_18 : Int) (x4_18 : Int) (h_18 : AH), I_18 n_18 x1_18 x2_18 x3_18 x4_18 h_18 → (okA h_18 a0 0 ∧ (((hfI h_18 a0 2) ≤ x4_18) → okA h_18 a0 0 ∧ Q (hfI h_18 a0 2) h_18) ∧ ((¬ ((hfI h_18 a0 2) ≤ x4_18)) → okA h_18 a0 0 ∧ ∃ b28 : Nat, hfR h_18 a0 0 = some b28 ∧ okI h_18 b28 x4_18 ∧ ∀ x5_34 : Int, x5_34 = (haI h_18 b28 x4_18) → jn (fun (x1_120 : Int) (x2_120 : Int) (x3_120 : Int) (h_120 : AH) => inR (x4_18 + 1) ∧ ∀ x4_120 : Int, x4_120 = (x4_18 + 1) → ∃ m, m < n_18 ∧ I_18 m x1_120 x2_120 x3_120 x4_120 h_120) (fun k_120 : Int → Int → Int → AH → Prop => ((¬ x5_34 = (47 : Int)) → jn (fun  (h_75 : AH) => w_X6_isLetter zz x5_34 h_75 (fun (r77 : Int) (h77 : AH) => jn (fun  (h_117 : AH) => Q x4_18 h_117) (fun k_117 : AH → Prop => ((r77 = 0) → k_117  h77) ∧ ((¬ (r77 = 0)) → (((16 : Int) ≤ x2_18) → k_117  h77) ∧ ((¬ ((16 : Int) ≤ x2_18)) → (((40 : Int) ≤ x3_18) → k_117  h77) ∧ ((¬ ((40 : Int) ≤ x3_18)) → okA h77 a0 0 ∧ ∃ b96 : Nat, hfR h77 a0 1 = some b96 ∧ inR ((16 : Int) * x1_18) ∧ inR (((16 : Int) * x1_18) + x2_18) ∧ okW h77 b96 (((16 : Int) * x1_18) + x2_18) ∧ ∀ h107 : AH, h107 = saI h77 b96 (u1 (haI h77 b96) (((16 : Int) * x1_18) + x2_18) x5_34) → inR (x2_18 + 1) ∧ ∀ x2_108 : Int, x2_108 = (x2_18 + 1) → inR (x3_18 + 1) ∧ ∀ x3_111 : Int, x3_111 = (x3_18 + 1) → k_120 x1_18 x2_108 x3_111 h107)))))) (fun k_75 : AH → Prop => ((¬ x5_34 = (46 : Int)) → k_75  h_18) ∧ ((x5_34 = (46 : Int)) → (((16 : Int) ≤ x2_18) → k_75  h_18) ∧ ((¬ ((16 : Int) ≤ x2_18)) → inR (x2_18 + 1) ∧ ∀ x2_69 : Int, x2_69 = (x2_18 + 1) → k_120 x1_18 x2_69 x3_18 h_18)))) ∧ ((x5_34 = (47 : Int)) → inR (x1_18 + 1) ∧ ∀ x1_43 : Int, x1_43 = (x1_18 + 1) → ((x1_43 < (5 : Int)) → k_120 x1_43 (0 : Int) x3_18 h_18) ∧ ((¬ (x1_43 < (5 : Int))) → Q x4_18 h_18))))))
set_option maxRecDepth 100000 in
set_option maxHeartbeats 4000000 in
theorem met_X0_read (G : GG) (l : Launch) : ∀ (As : List Value) (a0 : Nat) (h : AH) (Q : Int → AH → Prop), As.map ab = List.map some ([vR a0] : List AV) → w_X0_read G.2.2 a0 h Q → Met l yX0_read (.code yX0_read cX0_read 6 (some .int) :: xTb) ({ frames := 1, cells := 0, slots := 0, locals := 23 } : Room) (PcA G As h) (QG G (oI Q)) 0 0 (frA G) := by
  intro As a0 h Q hA hw
  refine met_of hA (by decide) (Nat.le_of_ble_eq_true rfl) (fun p e s m args below meth c C hml hr hnm => ?_)
  unfold w_X0_read at hw
  refine aw_aload_n (pc := 0) C dX0_read_0 rfl rfl ?_
  obtain ⟨hp9, b1, hb9, hw⟩ := hw
  refine aw_getR (pc := 1) C (ci := 0) (k := 1) ci0 (by decide) tw212 dX0_read_1 rfl hp9 hb9 ?_
  refine aw_bipush (pc := 4) C dX0_read_4 (i := (32 : Int)) (by decide) ?_
  refine aw_callS (pc := 6) (as := [vR b1, vI (32 : Int)]) C (fun As hA => met_J7_fill_53178 G l As b1 (32 : Int) _ _ hA hw) tw398 tw41 tw4 tw42 ⟨rfl, rfl⟩ ⟨by decide, by decide, pd_J7_fill_53178⟩ ⟨Nat.le_of_ble_eq_true rfl, Nat.le_of_ble_eq_true rfl⟩ ⟨Nat.zero_le _, Nat.zero_le _⟩ (Nat.le_of_ble_eq_true rfl) dX0_read_6 rfl (fun v9 h6 hq9 => ?_)
  obtain ⟨rfl, hw⟩ := hq9
  refine aw_iconst (pc := 9) C dX0_read_9 (i := (0 : Int)) (by decide) ?_
  refine aw_istore_n (pc := 10) C dX0_read_10 rfl (by rw [hml]; decide) ?_
  refine aw_iconst (pc := 11) C dX0_read_11 (i := (0 : Int)) (by decide) ?_
  refine aw_istore_n (pc := 12) C dX0_read_12 rfl (by rw [hml]; decide) ?_
  refine aw_iconst (pc := 13) C dX0_read_13 (i := (0 : Int)) (by decide) ?_
  refine aw_istore_n (pc := 14) C dX0_read_14 rfl (by rw [hml]; decide) ?_
  refine aw_iconst (pc := 15) C dX0_read_15 (i := (0 : Int)) (by decide) ?_
  refine aw_istore (pc := 16) C dX0_read_16 (by rw [hml]; decide) ?_
  obtain ⟨I_18, ⟨n9, hi9⟩, hst9⟩ := hw
  have L_18 : ∀ (n_18 : Nat) (x1_18 : Int) (x2_18 : Int) (x3_18 : Int) (x4_18 : Int) (h_18 : AH), I_18 n_18 x1_18 x2_18 x3_18 x4_18 h_18 → AW G p l e ({ frames := 1, cells := 0, slots := 0, locals := 23 } : Room) s m args below meth c 0 0 (MQ below (QG G (oI Q)) args s 0 0 (frA G)) 18 (eOf [(0, vR a0), (1, vI x1_18), (2, vI x2_18), (3, vI x3_18), (4, vI x4_18)]) [] h_18 := by
    intro n_18
    induction n_18 using Nat.strongRecOn with
    | _ n_18 ih_18 =>
    intro x1_18 x2_18 x3_18 x4_18 h_18 hi9
    have hw := hst9 n_18 x1_18 x2_18 x3_18 x4_18 h_18 hi9
    refine aw_iload (pc := 18) C dX0_read_18 rfl ?_
    refine aw_aload_n (pc := 20) C dX0_read_20 rfl rfl ?_
    obtain ⟨hp9, hw⟩ := hw
    refine aw_getI (pc := 21) C (ci := 0) (k := 2) ci0 (by decide) tw214 dX0_read_21 rfl hp9 ?_
    refine aw_icmp_ge (pc := 24) (tgt := 126) C dX0_read_24 (by decide) (fun hc9 => ?_) (fun hc9 => ?_)
    · have hw := hw.1 hc9
      refine aw_aload_n (pc := 126) C dX0_read_126 rfl rfl ?_
      obtain ⟨hp9, hw⟩ := hw
      refine aw_getI (pc := 127) C (ci := 0) (k := 2) ci0 (by decide) tw214 dX0_read_127 rfl hp9 ?_
      exact aw_iret (pc := 130) C hr dX0_read_130 ⟨Nat.le_of_ble_eq_true rfl, Nat.le_of_ble_eq_true rfl⟩ ⟨_, rfl, hw⟩
    · have hw := hw.2 hc9
      refine aw_aload_n (pc := 27) C dX0_read_27 rfl rfl ?_
      obtain ⟨hp9, b28, hb9, hw⟩ := hw
      refine aw_getR (pc := 28) C (ci := 0) (k := 0) ci0 (by decide) tw210 dX0_read_28 rfl hp9 hb9 ?_
      refine aw_iload (pc := 31) C dX0_read_31 rfl ?_
      obtain ⟨⟨k9, hp9⟩, hw⟩ := hw
      refine aw_iald (pc := 33) C dX0_read_33 hp9 ?_
      refine aw_nmI (fun x5_34 e9 => ?_)
      have hw := hw x5_34 e9
      refine aw_istore (pc := 34) C dX0_read_34 (by rw [hml]; decide) ?_
      refine aw_iload (pc := 36) C dX0_read_36 rfl ?_
      refine aw_bipush (pc := 38) C dX0_read_38 (i := (47 : Int)) (by decide) ?_
      obtain ⟨k_120, hk_120, hw⟩ := jn_out hw
      have J_120 : ∀ (x1_120 : Int) (x2_120 : Int) (x3_120 : Int) (h_120 : AH), k_120 x1_120 x2_120 x3_120 h_120 → AW G p l e ({ frames := 1, cells := 0, slots := 0, locals := 23 } : Room) s m args below meth c 0 0 (MQ below (QG G (oI Q)) args s 0 0 (frA G)) 120 (eOf [(0, vR a0), (1, vI x1_120), (2, vI x2_120), (3, vI x3_120), (4, vI x4_18)]) [] h_120 := by
        intro x1_120 x2_120 x3_120 h_120 hw
        rw [hk_120] at hw
        obtain ⟨hp9, hw⟩ := hw
        refine aw_iincN (pc := 120) C dX0_read_120 (k := 1) (by decide) rfl (by rw [hml]; decide) hp9 (fun x4_120 e9 => ?_)
        have hw := hw x4_120 e9
        refine aw_goto (pc := 123) (tgt := 18) C dX0_read_123 (by decide) ?_
        obtain ⟨m9, hm9, hw⟩ := hw
        refine aw_sub [(0, vR a0), (1, vI x1_120), (2, vI x2_120), (3, vI x3_120), (4, vI x4_120)] ⟨rfl, rfl, rfl, rfl, rfl, trivial⟩ ?_
        exact ih_18 m9 hm9 _ _ _ _ _ hw
      refine aw_icmp_ne (pc := 40) (tgt := 56) C dX0_read_40 (by decide) (fun hc9 => ?_) (fun hc9 => ?_)
      · have hw := hw.1 hc9
        refine aw_iload (pc := 56) C dX0_read_56 rfl ?_
        refine aw_bipush (pc := 58) C dX0_read_58 (i := (46 : Int)) (by decide) ?_
        obtain ⟨k_75, hk_75, hw⟩ := jn_out hw
        have J_75 : ∀  (h_75 : AH), k_75  h_75 → AW G p l e ({ frames := 1, cells := 0, slots := 0, locals := 23 } : Room) s m args below meth c 0 0 (MQ below (QG G (oI Q)) args s 0 0 (frA G)) 75 (eOf [(0, vR a0), (1, vI x1_18), (2, vI x2_18), (3, vI x3_18), (4, vI x4_18), (5, vI x5_34)]) [] h_75 := by
          intro  h_75 hw
          rw [hk_75] at hw
          refine aw_iload (pc := 75) C dX0_read_75 rfl ?_
          refine aw_callSN (pc := 77) (as := [vI x5_34]) C (fun As hA => met_X6_isLetter G l As x5_34 _ _ hA hw) rfl tw400 tw1 tw401 ⟨rfl, rfl⟩ ⟨by decide, by decide, pd_X6_isLetter⟩ ⟨Nat.le_of_ble_eq_true rfl, Nat.le_of_ble_eq_true rfl⟩ ⟨Nat.zero_le _, Nat.zero_le _⟩ (Nat.le_of_ble_eq_true rfl) dX0_read_77 rfl (fun v9 h77 hq9 => ?_)
          obtain ⟨r77, rfl, hw⟩ := hq9
          obtain ⟨k_117, hk_117, hw⟩ := jn_out hw
          have J_117 : ∀  (h_117 : AH), k_117  h_117 → AW G p l e ({ frames := 1, cells := 0, slots := 0, locals := 23 } : Room) s m args below meth c 0 0 (MQ below (QG G (oI Q)) args s 0 0 (frA G)) 117 (eOf [(4, vI x4_18)]) [] h_117 := by
            intro  h_117 hw
            rw [hk_117] at hw
            refine aw_iload (pc := 117) C dX0_read_117 rfl ?_
            exact aw_iret (pc := 119) C hr dX0_read_119 ⟨Nat.le_of_ble_eq_true rfl, Nat.le_of_ble_eq_true rfl⟩ ⟨_, rfl, hw⟩
          refine aw_if_eq (pc := 80) (tgt := 117) C dX0_read_80 (by decide) (fun hc9 => ?_) (fun hc9 => ?_)
          · have hw := hw.1 hc9
            refine aw_sub [(4, vI x4_18)] ⟨rfl, trivial⟩ ?_
            exact J_117  _ hw
          · have hw := hw.2 hc9
            refine aw_iload_n (pc := 83) C dX0_read_83 rfl rfl ?_
            refine aw_bipush (pc := 84) C dX0_read_84 (i := (16 : Int)) (by decide) ?_
            refine aw_icmp_ge (pc := 86) (tgt := 117) C dX0_read_86 (by decide) (fun hc9 => ?_) (fun hc9 => ?_)
            · have hw := hw.1 hc9
              refine aw_sub [(4, vI x4_18)] ⟨rfl, trivial⟩ ?_
              exact J_117  _ hw
            · have hw := hw.2 hc9
              refine aw_iload_n (pc := 89) C dX0_read_89 rfl rfl ?_
              refine aw_bipush (pc := 90) C dX0_read_90 (i := (40 : Int)) (by decide) ?_
              refine aw_icmp_ge (pc := 92) (tgt := 117) C dX0_read_92 (by decide) (fun hc9 => ?_) (fun hc9 => ?_)
              · have hw := hw.1 hc9
                refine aw_sub [(4, vI x4_18)] ⟨rfl, trivial⟩ ?_
                exact J_117  _ hw
              · have hw := hw.2 hc9
                refine aw_aload_n (pc := 95) C dX0_read_95 rfl rfl ?_
                obtain ⟨hp9, b96, hb9, hw⟩ := hw
                refine aw_getR (pc := 96) C (ci := 0) (k := 1) ci0 (by decide) tw212 dX0_read_96 rfl hp9 hb9 ?_
                refine aw_bipush (pc := 99) C dX0_read_99 (i := (16 : Int)) (by decide) ?_
                refine aw_iload_n (pc := 101) C dX0_read_101 rfl rfl ?_
                obtain ⟨hp9, hw⟩ := hw
                refine aw_imul (pc := 102) C dX0_read_102 hp9 ?_
                refine aw_iload_n (pc := 103) C dX0_read_103 rfl rfl ?_
                obtain ⟨hp9, hw⟩ := hw
                refine aw_iadd (pc := 104) C dX0_read_104 hp9 ?_
                refine aw_iload (pc := 105) C dX0_read_105 rfl ?_
                obtain ⟨⟨k9, hp9⟩, hw⟩ := hw
                refine aw_iast (pc := 107) C dX0_read_107 hp9 (aw_nmH (fun h107 e9 => ?_))
                have hw := hw h107 e9
                obtain ⟨hp9, hw⟩ := hw
                refine aw_iincN (pc := 108) C dX0_read_108 (k := 1) (by decide) rfl (by rw [hml]; decide) hp9 (fun x2_108 e9 => ?_)
                have hw := hw x2_108 e9
                obtain ⟨hp9, hw⟩ := hw
                refine aw_iincN (pc := 111) C dX0_read_111 (k := 1) (by decide) rfl (by rw [hml]; decide) hp9 (fun x3_111 e9 => ?_)
                have hw := hw x3_111 e9
                refine aw_goto (pc := 114) (tgt := 120) C dX0_read_114 (by decide) ?_
                refine aw_sub [(0, vR a0), (1, vI x1_18), (2, vI x2_108), (3, vI x3_111), (4, vI x4_18)] ⟨rfl, rfl, rfl, rfl, rfl, trivial⟩ ?_
                exact J_120 _ _ _ _ hw
        refine aw_icmp_ne (pc := 60) (tgt := 75) C dX0_read_60 (by decide) (fun hc9 => ?_) (fun hc9 => ?_)
        · have hw := hw.1 hc9
          refine aw_sub [(0, vR a0), (1, vI x1_18), (2, vI x2_18), (3, vI x3_18), (4, vI x4_18), (5, vI x5_34)] ⟨rfl, rfl, rfl, rfl, rfl, rfl, trivial⟩ ?_
          exact J_75  _ hw
        · have hw := hw.2 hc9
          refine aw_iload_n (pc := 63) C dX0_read_63 rfl rfl ?_
          refine aw_bipush (pc := 64) C dX0_read_64 (i := (16 : Int)) (by decide) ?_
          refine aw_icmp_ge (pc := 66) (tgt := 75) C dX0_read_66 (by decide) (fun hc9 => ?_) (fun hc9 => ?_)
          · have hw := hw.1 hc9
            refine aw_sub [(0, vR a0), (1, vI x1_18), (2, vI x2_18), (3, vI x3_18), (4, vI x4_18), (5, vI x5_34)] ⟨rfl, rfl, rfl, rfl, rfl, rfl, trivial⟩ ?_
            exact J_75  _ hw
          · have hw := hw.2 hc9
            obtain ⟨hp9, hw⟩ := hw
            refine aw_iincN (pc := 69) C dX0_read_69 (k := 1) (by decide) rfl (by rw [hml]; decide) hp9 (fun x2_69 e9 => ?_)
            have hw := hw x2_69 e9
            refine aw_goto (pc := 72) (tgt := 120) C dX0_read_72 (by decide) ?_
            refine aw_sub [(0, vR a0), (1, vI x1_18), (2, vI x2_69), (3, vI x3_18), (4, vI x4_18)] ⟨rfl, rfl, rfl, rfl, rfl, trivial⟩ ?_
            exact J_120 _ _ _ _ hw
      · have hw := hw.2 hc9
        obtain ⟨hp9, hw⟩ := hw
        refine aw_iincN (pc := 43) C dX0_read_43 (k := 1) (by decide) rfl (by rw [hml]; decide) hp9 (fun x1_43 e9 => ?_)
        have hw := hw x1_43 e9
        refine aw_iconst (pc := 46) C dX0_read_46 (i := (0 : Int)) (by decide) ?_
        refine aw_istore_n (pc := 47) C dX0_read_47 rfl (by rw [hml]; decide) ?_
        refine aw_iload_n (pc := 48) C dX0_read_48 rfl rfl ?_
        refine aw_iconst (pc := 49) C dX0_read_49 (i := (5 : Int)) (by decide) ?_
        refine aw_icmp_lt (pc := 50) (tgt := 120) C dX0_read_50 (by decide) (fun hc9 => ?_) (fun hc9 => ?_)
        · have hw := hw.1 hc9
          refine aw_sub [(0, vR a0), (1, vI x1_43), (2, vI (0 : Int)), (3, vI x3_18), (4, vI x4_18)] ⟨rfl, rfl, rfl, rfl, rfl, trivial⟩ ?_
          exact J_120 _ _ _ _ hw
        · have hw := hw.2 hc9
          refine aw_iload (pc := 53) C dX0_read_53 rfl ?_
          exact aw_iret (pc := 55) C hr dX0_read_55 ⟨Nat.le_of_ble_eq_true rfl, Nat.le_of_ble_eq_true rfl⟩ ⟨_, rfl, hw⟩
  refine aw_sub [(0, vR a0), (1, vI (0 : Int)), (2, vI (0 : Int)), (3, vI (0 : Int)), (4, vI (0 : Int))] ⟨rfl, rfl, rfl, rfl, rfl, trivial⟩ ?_
  exact L_18 n9 _ _ _ _ _ hi9
theorem dX5_rowOf_0 : decode cX5_rowOf 0 = .ok (.aload_n 0, 1) := by decide +kernel
theorem dX5_rowOf_1 : decode cX5_rowOf 1 = .ok (.getfield 15, 3) := by decide +kernel
theorem dX5_rowOf_4 : decode cX5_rowOf 4 = .ok (.iload_n 1, 1) := by decide +kernel
theorem dX5_rowOf_5 : decode cX5_rowOf 5 = .ok (.iaload, 1) := by decide +kernel
theorem dX5_rowOf_6 : decode cX5_rowOf 6 = .ok (.bipush 16, 2) := by decide +kernel
theorem dX5_rowOf_8 : decode cX5_rowOf 8 = .ok (.idiv, 1) := by decide +kernel
theorem dX5_rowOf_9 : decode cX5_rowOf 9 = .ok (.ireturn, 1) := by decide +kernel
theorem pd_X5_rowOf : (parseMethodDescriptor yX5_rowOf.desc).map (fun d => d.parameters.length) = some 1 := by decide +kernel
def w_X5_rowOf (zz : Nat → Nat) (a0 : Nat) (a1 : Int) (h : AH) (Q : Int → AH → Prop) : Prop := okA h a0 5 ∧ ∃ b1 : Nat, hfR h a0 1 = some b1 ∧ okI h b1 a1 ∧ (0 ≤ (haI h b1 a1) ∧ 0 < (16 : Int)) ∧ Q ((haI h b1 a1) / (16 : Int)) h
set_option maxRecDepth 100000 in
set_option maxHeartbeats 4000000 in
theorem met_X5_rowOf (G : GG) (l : Launch) : ∀ (As : List Value) (a0 : Nat) (a1 : Int) (h : AH) (Q : Int → AH → Prop), As.map ab = List.map some ([vR a0, vI a1] : List AV) → w_X5_rowOf G.2.2 a0 a1 h Q → Met l yX5_rowOf (.code yX5_rowOf cX5_rowOf 2 (some .int) :: xTb) ({ frames := 0, cells := 0, slots := 0, locals := 0 } : Room) (PcA G As h) (QG G (oI Q)) 0 0 (frA G) := by
  intro As a0 a1 h Q hA hw
  refine met_of hA (by decide) (Nat.le_of_ble_eq_true rfl) (fun p e s m args below meth c C hml hr hnm => ?_)
  unfold w_X5_rowOf at hw
  refine aw_aload_n (pc := 0) C dX5_rowOf_0 rfl rfl ?_
  obtain ⟨hp9, b1, hb9, hw⟩ := hw
  refine aw_getR (pc := 1) C (ci := 5) (k := 1) ci5 (by decide) tw45 dX5_rowOf_1 rfl hp9 hb9 ?_
  refine aw_iload_n (pc := 4) C dX5_rowOf_4 rfl rfl ?_
  obtain ⟨⟨k9, hp9⟩, hw⟩ := hw
  refine aw_iald (pc := 5) C dX5_rowOf_5 hp9 ?_
  refine aw_bipush (pc := 6) C dX5_rowOf_6 (i := (16 : Int)) (by decide) ?_
  obtain ⟨hp9, hw⟩ := hw
  refine aw_idiv (pc := 8) C dX5_rowOf_8 hp9 ?_
  exact aw_iret (pc := 9) C hr dX5_rowOf_9 ⟨Nat.le_of_ble_eq_true rfl, Nat.le_of_ble_eq_true rfl⟩ ⟨_, rfl, hw⟩
theorem dX5_columnOf_0 : decode cX5_columnOf 0 = .ok (.aload_n 0, 1) := by decide +kernel
theorem dX5_columnOf_1 : decode cX5_columnOf 1 = .ok (.getfield 15, 3) := by decide +kernel
theorem dX5_columnOf_4 : decode cX5_columnOf 4 = .ok (.iload_n 1, 1) := by decide +kernel
theorem dX5_columnOf_5 : decode cX5_columnOf 5 = .ok (.iaload, 1) := by decide +kernel
theorem dX5_columnOf_6 : decode cX5_columnOf 6 = .ok (.bipush 16, 2) := by decide +kernel
theorem dX5_columnOf_8 : decode cX5_columnOf 8 = .ok (.irem, 1) := by decide +kernel
theorem dX5_columnOf_9 : decode cX5_columnOf 9 = .ok (.ireturn, 1) := by decide +kernel
theorem pd_X5_columnOf : (parseMethodDescriptor yX5_columnOf.desc).map (fun d => d.parameters.length) = some 1 := by decide +kernel
def w_X5_columnOf (zz : Nat → Nat) (a0 : Nat) (a1 : Int) (h : AH) (Q : Int → AH → Prop) : Prop := okA h a0 5 ∧ ∃ b1 : Nat, hfR h a0 1 = some b1 ∧ okI h b1 a1 ∧ (0 ≤ (haI h b1 a1) ∧ 0 < (16 : Int)) ∧ Q ((haI h b1 a1) % (16 : Int)) h
set_option maxRecDepth 100000 in
set_option maxHeartbeats 4000000 in
theorem met_X5_columnOf (G : GG) (l : Launch) : ∀ (As : List Value) (a0 : Nat) (a1 : Int) (h : AH) (Q : Int → AH → Prop), As.map ab = List.map some ([vR a0, vI a1] : List AV) → w_X5_columnOf G.2.2 a0 a1 h Q → Met l yX5_columnOf (.code yX5_columnOf cX5_columnOf 2 (some .int) :: xTb) ({ frames := 0, cells := 0, slots := 0, locals := 0 } : Room) (PcA G As h) (QG G (oI Q)) 0 0 (frA G) := by
  intro As a0 a1 h Q hA hw
  refine met_of hA (by decide) (Nat.le_of_ble_eq_true rfl) (fun p e s m args below meth c C hml hr hnm => ?_)
  unfold w_X5_columnOf at hw
  refine aw_aload_n (pc := 0) C dX5_columnOf_0 rfl rfl ?_
  obtain ⟨hp9, b1, hb9, hw⟩ := hw
  refine aw_getR (pc := 1) C (ci := 5) (k := 1) ci5 (by decide) tw45 dX5_columnOf_1 rfl hp9 hb9 ?_
  refine aw_iload_n (pc := 4) C dX5_columnOf_4 rfl rfl ?_
  obtain ⟨⟨k9, hp9⟩, hw⟩ := hw
  refine aw_iald (pc := 5) C dX5_columnOf_5 hp9 ?_
  refine aw_bipush (pc := 6) C dX5_columnOf_6 (i := (16 : Int)) (by decide) ?_
  obtain ⟨hp9, hw⟩ := hw
  refine aw_irem (pc := 8) C dX5_columnOf_8 hp9 ?_
  exact aw_iret (pc := 9) C hr dX5_columnOf_9 ⟨Nat.le_of_ble_eq_true rfl, Nat.le_of_ble_eq_true rfl⟩ ⟨_, rfl, hw⟩
theorem dX5_codeOf_0 : decode cX5_codeOf 0 = .ok (.aload_n 0, 1) := by decide +kernel
theorem dX5_codeOf_1 : decode cX5_codeOf 1 = .ok (.getfield 9, 3) := by decide +kernel
theorem dX5_codeOf_4 : decode cX5_codeOf 4 = .ok (.aload_n 0, 1) := by decide +kernel
theorem dX5_codeOf_5 : decode cX5_codeOf 5 = .ok (.getfield 15, 3) := by decide +kernel
theorem dX5_codeOf_8 : decode cX5_codeOf 8 = .ok (.iload_n 1, 1) := by decide +kernel
theorem dX5_codeOf_9 : decode cX5_codeOf 9 = .ok (.iaload, 1) := by decide +kernel
theorem dX5_codeOf_10 : decode cX5_codeOf 10 = .ok (.iaload, 1) := by decide +kernel
theorem dX5_codeOf_11 : decode cX5_codeOf 11 = .ok (.ireturn, 1) := by decide +kernel
theorem pd_X5_codeOf : (parseMethodDescriptor yX5_codeOf.desc).map (fun d => d.parameters.length) = some 1 := by decide +kernel
def w_X5_codeOf (zz : Nat → Nat) (a0 : Nat) (a1 : Int) (h : AH) (Q : Int → AH → Prop) : Prop := okA h a0 5 ∧ ∃ b1 : Nat, hfR h a0 0 = some b1 ∧ okA h a0 5 ∧ ∃ b5 : Nat, hfR h a0 1 = some b5 ∧ okI h b5 a1 ∧ okI h b1 (haI h b5 a1) ∧ Q (haI h b1 (haI h b5 a1)) h
set_option maxRecDepth 100000 in
set_option maxHeartbeats 4000000 in
theorem met_X5_codeOf (G : GG) (l : Launch) : ∀ (As : List Value) (a0 : Nat) (a1 : Int) (h : AH) (Q : Int → AH → Prop), As.map ab = List.map some ([vR a0, vI a1] : List AV) → w_X5_codeOf G.2.2 a0 a1 h Q → Met l yX5_codeOf (.code yX5_codeOf cX5_codeOf 2 (some .int) :: xTb) ({ frames := 0, cells := 0, slots := 0, locals := 0 } : Room) (PcA G As h) (QG G (oI Q)) 0 0 (frA G) := by
  intro As a0 a1 h Q hA hw
  refine met_of hA (by decide) (Nat.le_of_ble_eq_true rfl) (fun p e s m args below meth c C hml hr hnm => ?_)
  unfold w_X5_codeOf at hw
  refine aw_aload_n (pc := 0) C dX5_codeOf_0 rfl rfl ?_
  obtain ⟨hp9, b1, hb9, hw⟩ := hw
  refine aw_getR (pc := 1) C (ci := 5) (k := 0) ci5 (by decide) tw43 dX5_codeOf_1 rfl hp9 hb9 ?_
  refine aw_aload_n (pc := 4) C dX5_codeOf_4 rfl rfl ?_
  obtain ⟨hp9, b5, hb9, hw⟩ := hw
  refine aw_getR (pc := 5) C (ci := 5) (k := 1) ci5 (by decide) tw45 dX5_codeOf_5 rfl hp9 hb9 ?_
  refine aw_iload_n (pc := 8) C dX5_codeOf_8 rfl rfl ?_
  obtain ⟨⟨k9, hp9⟩, hw⟩ := hw
  refine aw_iald (pc := 9) C dX5_codeOf_9 hp9 ?_
  obtain ⟨⟨k9, hp9⟩, hw⟩ := hw
  refine aw_iald (pc := 10) C dX5_codeOf_10 hp9 ?_
  exact aw_iret (pc := 11) C hr dX5_codeOf_11 ⟨Nat.le_of_ble_eq_true rfl, Nat.le_of_ble_eq_true rfl⟩ ⟨_, rfl, hw⟩
theorem dX4_text_0 : decode cX4_text 0 = .ok (.iload_n 1, 1) := by decide +kernel
theorem dX4_text_1 : decode cX4_text 1 = .ok (.ifCond .ne 10, 3) := by decide +kernel
theorem dX4_text_4 : decode cX4_text 4 = .ok (.aload_n 0, 1) := by decide +kernel
theorem dX4_text_5 : decode cX4_text 5 = .ok (.getfield 18, 3) := by decide +kernel
theorem dX4_text_8 : decode cX4_text 8 = .ok (.goto 7, 3) := by decide +kernel
theorem dX4_text_11 : decode cX4_text 11 = .ok (.aload_n 0, 1) := by decide +kernel
theorem dX4_text_12 : decode cX4_text 12 = .ok (.getfield 22, 3) := by decide +kernel
theorem dX4_text_15 : decode cX4_text 15 = .ok (.areturn, 1) := by decide +kernel
theorem pd_X4_text : (parseMethodDescriptor yX4_text.desc).map (fun d => d.parameters.length) = some 1 := by decide +kernel
def w_X4_text (zz : Nat → Nat) (a0 : Nat) (a1 : Int) (h : AH) (Q : Nat → AH → Prop) : Prop := jn (fun (t0_15 : Nat) (h_15 : AH) => Q t0_15 h_15) (fun k_15 : Nat → AH → Prop => ((¬ a1 = 0) → okA h a0 4 ∧ ∃ b12 : Nat, hfR h a0 2 = some b12 ∧ k_15 b12 h) ∧ ((a1 = 0) → okA h a0 4 ∧ ∃ b5 : Nat, hfR h a0 1 = some b5 ∧ k_15 b5 h))
set_option maxRecDepth 100000 in
set_option maxHeartbeats 4000000 in
theorem met_X4_text (G : GG) (l : Launch) : ∀ (As : List Value) (a0 : Nat) (a1 : Int) (h : AH) (Q : Nat → AH → Prop), As.map ab = List.map some ([vR a0, vI a1] : List AV) → w_X4_text G.2.2 a0 a1 h Q → Met l yX4_text (.code yX4_text cX4_text 2 (some (.object "TextMorph$Text")) :: xTb) ({ frames := 0, cells := 0, slots := 0, locals := 0 } : Room) (PcA G As h) (QG G (oR Q)) 0 0 (frA G) := by
  intro As a0 a1 h Q hA hw
  refine met_of hA (by decide) (Nat.le_of_ble_eq_true rfl) (fun p e s m args below meth c C hml hr hnm => ?_)
  unfold w_X4_text at hw
  refine aw_iload_n (pc := 0) C dX4_text_0 rfl rfl ?_
  obtain ⟨k_15, hk_15, hw⟩ := jn_out hw
  have J_15 : ∀ (t0_15 : Nat) (h_15 : AH), k_15 t0_15 h_15 → AW G p l e ({ frames := 0, cells := 0, slots := 0, locals := 0 } : Room) s m args below meth c 0 0 (MQ below (QG G (oR Q)) args s 0 0 (frA G)) 15 (eOf []) [vR t0_15] h_15 := by
    intro t0_15 h_15 hw
    rw [hk_15] at hw
    exact aw_aret (pc := 15) C hr dX4_text_15 ⟨Nat.le_of_ble_eq_true rfl, Nat.le_of_ble_eq_true rfl⟩ ⟨_, rfl, hw⟩
  refine aw_if_ne (pc := 1) (tgt := 11) C dX4_text_1 (by decide) (fun hc9 => ?_) (fun hc9 => ?_)
  · have hw := hw.1 hc9
    refine aw_aload_n (pc := 11) C dX4_text_11 rfl rfl ?_
    obtain ⟨hp9, b12, hb9, hw⟩ := hw
    refine aw_getR (pc := 12) C (ci := 4) (k := 2) ci4 (by decide) tw72 dX4_text_12 rfl hp9 hb9 ?_
    refine aw_sub [] trivial ?_
    exact J_15 _ _ hw
  · have hw := hw.2 hc9
    refine aw_aload_n (pc := 4) C dX4_text_4 rfl rfl ?_
    obtain ⟨hp9, b5, hb9, hw⟩ := hw
    refine aw_getR (pc := 5) C (ci := 4) (k := 1) ci4 (by decide) tw71 dX4_text_5 rfl hp9 hb9 ?_
    refine aw_goto (pc := 8) (tgt := 15) C dX4_text_8 (by decide) ?_
    refine aw_sub [] trivial ?_
    exact J_15 _ _ hw
theorem dX3_distance_0 : decode cX3_distance 0 = .ok (.aload_n 0, 1) := by decide +kernel
theorem dX3_distance_1 : decode cX3_distance 1 = .ok (.getfield 30, 3) := by decide +kernel
theorem dX3_distance_4 : decode cX3_distance 4 = .ok (.iconst 0, 1) := by decide +kernel
theorem dX3_distance_5 : decode cX3_distance 5 = .ok (.invokevirtual 49, 3) := by decide +kernel
theorem dX3_distance_8 : decode cX3_distance 8 = .ok (.iload_n 1, 1) := by decide +kernel
theorem dX3_distance_9 : decode cX3_distance 9 = .ok (.invokevirtual 53, 3) := by decide +kernel
theorem dX3_distance_12 : decode cX3_distance 12 = .ok (.aload_n 0, 1) := by decide +kernel
theorem dX3_distance_13 : decode cX3_distance 13 = .ok (.getfield 30, 3) := by decide +kernel
theorem dX3_distance_16 : decode cX3_distance 16 = .ok (.iconst 1, 1) := by decide +kernel
theorem dX3_distance_17 : decode cX3_distance 17 = .ok (.invokevirtual 49, 3) := by decide +kernel
theorem dX3_distance_20 : decode cX3_distance 20 = .ok (.iload_n 2, 1) := by decide +kernel
theorem dX3_distance_21 : decode cX3_distance 21 = .ok (.invokevirtual 53, 3) := by decide +kernel
theorem dX3_distance_24 : decode cX3_distance 24 = .ok (.isub, 1) := by decide +kernel
theorem dX3_distance_25 : decode cX3_distance 25 = .ok (.invokestatic 59, 3) := by decide +kernel
theorem dX3_distance_28 : decode cX3_distance 28 = .ok (.istore_n 3, 1) := by decide +kernel
theorem dX3_distance_29 : decode cX3_distance 29 = .ok (.aload_n 0, 1) := by decide +kernel
theorem dX3_distance_30 : decode cX3_distance 30 = .ok (.getfield 30, 3) := by decide +kernel
theorem dX3_distance_33 : decode cX3_distance 33 = .ok (.iconst 0, 1) := by decide +kernel
theorem dX3_distance_34 : decode cX3_distance 34 = .ok (.invokevirtual 49, 3) := by decide +kernel
theorem dX3_distance_37 : decode cX3_distance 37 = .ok (.iload_n 1, 1) := by decide +kernel
theorem dX3_distance_38 : decode cX3_distance 38 = .ok (.invokevirtual 64, 3) := by decide +kernel
theorem dX3_distance_41 : decode cX3_distance 41 = .ok (.aload_n 0, 1) := by decide +kernel
theorem dX3_distance_42 : decode cX3_distance 42 = .ok (.getfield 30, 3) := by decide +kernel
theorem dX3_distance_45 : decode cX3_distance 45 = .ok (.iconst 1, 1) := by decide +kernel
theorem dX3_distance_46 : decode cX3_distance 46 = .ok (.invokevirtual 49, 3) := by decide +kernel
theorem dX3_distance_49 : decode cX3_distance 49 = .ok (.iload_n 2, 1) := by decide +kernel
theorem dX3_distance_50 : decode cX3_distance 50 = .ok (.invokevirtual 64, 3) := by decide +kernel
theorem dX3_distance_53 : decode cX3_distance 53 = .ok (.isub, 1) := by decide +kernel
theorem dX3_distance_54 : decode cX3_distance 54 = .ok (.invokestatic 59, 3) := by decide +kernel
theorem dX3_distance_57 : decode cX3_distance 57 = .ok (.istore 4, 2) := by decide +kernel
theorem dX3_distance_59 : decode cX3_distance 59 = .ok (.iload_n 3, 1) := by decide +kernel
theorem dX3_distance_60 : decode cX3_distance 60 = .ok (.aload_n 0, 1) := by decide +kernel
theorem dX3_distance_61 : decode cX3_distance 61 = .ok (.getfield 30, 3) := by decide +kernel
theorem dX3_distance_64 : decode cX3_distance 64 = .ok (.getfield 40, 3) := by decide +kernel
theorem dX3_distance_67 : decode cX3_distance 67 = .ok (.iconst 0, 1) := by decide +kernel
theorem dX3_distance_68 : decode cX3_distance 68 = .ok (.iaload, 1) := by decide +kernel
theorem dX3_distance_69 : decode cX3_distance 69 = .ok (.iload 4, 2) := by decide +kernel
theorem dX3_distance_71 : decode cX3_distance 71 = .ok (.imul, 1) := by decide +kernel
theorem dX3_distance_72 : decode cX3_distance 72 = .ok (.iadd, 1) := by decide +kernel
theorem dX3_distance_73 : decode cX3_distance 73 = .ok (.ireturn, 1) := by decide +kernel
theorem pd_X3_distance : (parseMethodDescriptor yX3_distance.desc).map (fun d => d.parameters.length) = some 2 := by decide +kernel
def w_X3_distance (zz : Nat → Nat) (a0 : Nat) (a1 : Int) (a2 : Int) (h : AH) (Q : Int → AH → Prop) : Prop := okA h a0 3 ∧ ∃ b1 : Nat, hfR h a0 5 = some b1 ∧ okA h b1 4 ∧ w_X4_text zz b1 (0 : Int) h (fun (r5 : Nat) (h5 : AH) => okA h5 r5 5 ∧ w_X5_columnOf zz r5 a1 h5 (fun (r9 : Int) (h9 : AH) => okA h9 a0 3 ∧ ∃ b13 : Nat, hfR h9 a0 5 = some b13 ∧ okA h9 b13 4 ∧ w_X4_text zz b13 (1 : Int) h9 (fun (r17 : Nat) (h17 : AH) => okA h17 r17 5 ∧ w_X5_columnOf zz r17 a2 h17 (fun (r21 : Int) (h21 : AH) => inR (r9 - r21) ∧ inR (0 - (r9 - r21)) ∧ ∀ x3_28 : Int, x3_28 = (if 0 ≤ (r9 - r21) then (r9 - r21) else 0 - (r9 - r21)) → okA h21 a0 3 ∧ ∃ b30 : Nat, hfR h21 a0 5 = some b30 ∧ okA h21 b30 4 ∧ w_X4_text zz b30 (0 : Int) h21 (fun (r34 : Nat) (h34 : AH) => okA h34 r34 5 ∧ w_X5_rowOf zz r34 a1 h34 (fun (r38 : Int) (h38 : AH) => okA h38 a0 3 ∧ ∃ b42 : Nat, hfR h38 a0 5 = some b42 ∧ okA h38 b42 4 ∧ w_X4_text zz b42 (1 : Int) h38 (fun (r46 : Nat) (h46 : AH) => okA h46 r46 5 ∧ w_X5_rowOf zz r46 a2 h46 (fun (r50 : Int) (h50 : AH) => inR (r38 - r50) ∧ inR (0 - (r38 - r50)) ∧ ∀ x4_57 : Int, x4_57 = (if 0 ≤ (r38 - r50) then (r38 - r50) else 0 - (r38 - r50)) → okA h50 a0 3 ∧ ∃ b61 : Nat, hfR h50 a0 5 = some b61 ∧ okA h50 b61 4 ∧ ∃ b64 : Nat, hfR h50 b61 0 = some b64 ∧ okI h50 b64 (0 : Int) ∧ inR ((haI h50 b64 (0 : Int)) * x4_57) ∧ inR (x3_28 + ((haI h50 b64 (0 : Int)) * x4_57)) ∧ Q (x3_28 + ((haI h50 b64 (0 : Int)) * x4_57)) h50))))))))
set_option maxRecDepth 100000 in
set_option maxHeartbeats 4000000 in
theorem met_X3_distance (G : GG) (l : Launch) : ∀ (As : List Value) (a0 : Nat) (a1 : Int) (a2 : Int) (h : AH) (Q : Int → AH → Prop), As.map ab = List.map some ([vR a0, vI a1, vI a2] : List AV) → w_X3_distance G.2.2 a0 a1 a2 h Q → Met l yX3_distance (.code yX3_distance cX3_distance 5 (some .int) :: xTb) ({ frames := 1, cells := 0, slots := 0, locals := 21 } : Room) (PcA G As h) (QG G (oI Q)) 0 0 (frA G) := by
  intro As a0 a1 a2 h Q hA hw
  refine met_of hA (by decide) (Nat.le_of_ble_eq_true rfl) (fun p e s m args below meth c C hml hr hnm => ?_)
  unfold w_X3_distance at hw
  refine aw_aload_n (pc := 0) C dX3_distance_0 rfl rfl ?_
  obtain ⟨hp9, b1, hb9, hw⟩ := hw
  refine aw_getR (pc := 1) C (ci := 3) (k := 5) ci3 (by decide) tw105 dX3_distance_1 rfl hp9 hb9 ?_
  refine aw_iconst (pc := 4) C dX3_distance_4 (i := (0 : Int)) (by decide) ?_
  obtain ⟨hp9, hw⟩ := hw
  refine aw_callV (pc := 5) (as := [vI (0 : Int)]) C ci4 (fun As hA => met_X4_text G l As b1 (0 : Int) _ _ hA hw) tw302 tw266 tw267 tw2 tw268 ⟨rfl, rfl⟩ ⟨rfl, by decide, by decide, pd_X4_text⟩ ⟨Nat.le_of_ble_eq_true rfl, Nat.le_of_ble_eq_true rfl⟩ ⟨Nat.zero_le _, Nat.zero_le _⟩ (Nat.le_of_ble_eq_true rfl) dX3_distance_5 rfl hp9 (fun v9 h5 hq9 => ?_)
  obtain ⟨r5, rfl, hw⟩ := hq9
  refine aw_iload_n (pc := 8) C dX3_distance_8 rfl rfl ?_
  obtain ⟨hp9, hw⟩ := hw
  refine aw_callV (pc := 9) (as := [vI a1]) C ci5 (fun As hA => met_X5_columnOf G l As r5 a1 _ _ hA hw) tw342 tw343 tw344 tw3 tw345 ⟨rfl, rfl⟩ ⟨rfl, by decide, by decide, pd_X5_columnOf⟩ ⟨Nat.le_of_ble_eq_true rfl, Nat.le_of_ble_eq_true rfl⟩ ⟨Nat.zero_le _, Nat.zero_le _⟩ (Nat.le_of_ble_eq_true rfl) dX3_distance_9 rfl hp9 (fun v9 h9 hq9 => ?_)
  obtain ⟨r9, rfl, hw⟩ := hq9
  refine aw_aload_n (pc := 12) C dX3_distance_12 rfl rfl ?_
  obtain ⟨hp9, b13, hb9, hw⟩ := hw
  refine aw_getR (pc := 13) C (ci := 3) (k := 5) ci3 (by decide) tw105 dX3_distance_13 rfl hp9 hb9 ?_
  refine aw_iconst (pc := 16) C dX3_distance_16 (i := (1 : Int)) (by decide) ?_
  obtain ⟨hp9, hw⟩ := hw
  refine aw_callV (pc := 17) (as := [vI (1 : Int)]) C ci4 (fun As hA => met_X4_text G l As b13 (1 : Int) _ _ hA hw) tw302 tw266 tw267 tw2 tw268 ⟨rfl, rfl⟩ ⟨rfl, by decide, by decide, pd_X4_text⟩ ⟨Nat.le_of_ble_eq_true rfl, Nat.le_of_ble_eq_true rfl⟩ ⟨Nat.zero_le _, Nat.zero_le _⟩ (Nat.le_of_ble_eq_true rfl) dX3_distance_17 rfl hp9 (fun v9 h17 hq9 => ?_)
  obtain ⟨r17, rfl, hw⟩ := hq9
  refine aw_iload_n (pc := 20) C dX3_distance_20 rfl rfl ?_
  obtain ⟨hp9, hw⟩ := hw
  refine aw_callV (pc := 21) (as := [vI a2]) C ci5 (fun As hA => met_X5_columnOf G l As r17 a2 _ _ hA hw) tw342 tw343 tw344 tw3 tw345 ⟨rfl, rfl⟩ ⟨rfl, by decide, by decide, pd_X5_columnOf⟩ ⟨Nat.le_of_ble_eq_true rfl, Nat.le_of_ble_eq_true rfl⟩ ⟨Nat.zero_le _, Nat.zero_le _⟩ (Nat.le_of_ble_eq_true rfl) dX3_distance_21 rfl hp9 (fun v9 h21 hq9 => ?_)
  obtain ⟨r21, rfl, hw⟩ := hq9
  obtain ⟨hp9, hw⟩ := hw
  refine aw_isub (pc := 24) C dX3_distance_24 hp9 ?_
  obtain ⟨hp9, hw⟩ := hw
  refine aw_mabs (pc := 25) C tw346 tw347 tw17 tw348 ⟨Nat.le_of_ble_eq_true rfl, Nat.le_of_ble_eq_true rfl, Nat.zero_le _, Nat.zero_le _⟩ (Nat.le_of_ble_eq_true rfl) dX3_distance_25 hp9 ?_
  refine aw_nmI (fun x3_28 e9 => ?_)
  have hw := hw x3_28 e9
  refine aw_istore_n (pc := 28) C dX3_distance_28 rfl (by rw [hml]; decide) ?_
  refine aw_aload_n (pc := 29) C dX3_distance_29 rfl rfl ?_
  obtain ⟨hp9, b30, hb9, hw⟩ := hw
  refine aw_getR (pc := 30) C (ci := 3) (k := 5) ci3 (by decide) tw105 dX3_distance_30 rfl hp9 hb9 ?_
  refine aw_iconst (pc := 33) C dX3_distance_33 (i := (0 : Int)) (by decide) ?_
  obtain ⟨hp9, hw⟩ := hw
  refine aw_callV (pc := 34) (as := [vI (0 : Int)]) C ci4 (fun As hA => met_X4_text G l As b30 (0 : Int) _ _ hA hw) tw302 tw266 tw267 tw2 tw268 ⟨rfl, rfl⟩ ⟨rfl, by decide, by decide, pd_X4_text⟩ ⟨Nat.le_of_ble_eq_true rfl, Nat.le_of_ble_eq_true rfl⟩ ⟨Nat.zero_le _, Nat.zero_le _⟩ (Nat.le_of_ble_eq_true rfl) dX3_distance_34 rfl hp9 (fun v9 h34 hq9 => ?_)
  obtain ⟨r34, rfl, hw⟩ := hq9
  refine aw_iload_n (pc := 37) C dX3_distance_37 rfl rfl ?_
  obtain ⟨hp9, hw⟩ := hw
  refine aw_callV (pc := 38) (as := [vI a1]) C ci5 (fun As hA => met_X5_rowOf G l As r34 a1 _ _ hA hw) tw334 tw335 tw336 tw3 tw337 ⟨rfl, rfl⟩ ⟨rfl, by decide, by decide, pd_X5_rowOf⟩ ⟨Nat.le_of_ble_eq_true rfl, Nat.le_of_ble_eq_true rfl⟩ ⟨Nat.zero_le _, Nat.zero_le _⟩ (Nat.le_of_ble_eq_true rfl) dX3_distance_38 rfl hp9 (fun v9 h38 hq9 => ?_)
  obtain ⟨r38, rfl, hw⟩ := hq9
  refine aw_aload_n (pc := 41) C dX3_distance_41 rfl rfl ?_
  obtain ⟨hp9, b42, hb9, hw⟩ := hw
  refine aw_getR (pc := 42) C (ci := 3) (k := 5) ci3 (by decide) tw105 dX3_distance_42 rfl hp9 hb9 ?_
  refine aw_iconst (pc := 45) C dX3_distance_45 (i := (1 : Int)) (by decide) ?_
  obtain ⟨hp9, hw⟩ := hw
  refine aw_callV (pc := 46) (as := [vI (1 : Int)]) C ci4 (fun As hA => met_X4_text G l As b42 (1 : Int) _ _ hA hw) tw302 tw266 tw267 tw2 tw268 ⟨rfl, rfl⟩ ⟨rfl, by decide, by decide, pd_X4_text⟩ ⟨Nat.le_of_ble_eq_true rfl, Nat.le_of_ble_eq_true rfl⟩ ⟨Nat.zero_le _, Nat.zero_le _⟩ (Nat.le_of_ble_eq_true rfl) dX3_distance_46 rfl hp9 (fun v9 h46 hq9 => ?_)
  obtain ⟨r46, rfl, hw⟩ := hq9
  refine aw_iload_n (pc := 49) C dX3_distance_49 rfl rfl ?_
  obtain ⟨hp9, hw⟩ := hw
  refine aw_callV (pc := 50) (as := [vI a2]) C ci5 (fun As hA => met_X5_rowOf G l As r46 a2 _ _ hA hw) tw334 tw335 tw336 tw3 tw337 ⟨rfl, rfl⟩ ⟨rfl, by decide, by decide, pd_X5_rowOf⟩ ⟨Nat.le_of_ble_eq_true rfl, Nat.le_of_ble_eq_true rfl⟩ ⟨Nat.zero_le _, Nat.zero_le _⟩ (Nat.le_of_ble_eq_true rfl) dX3_distance_50 rfl hp9 (fun v9 h50 hq9 => ?_)
  obtain ⟨r50, rfl, hw⟩ := hq9
  obtain ⟨hp9, hw⟩ := hw
  refine aw_isub (pc := 53) C dX3_distance_53 hp9 ?_
  obtain ⟨hp9, hw⟩ := hw
  refine aw_mabs (pc := 54) C tw346 tw347 tw17 tw348 ⟨Nat.le_of_ble_eq_true rfl, Nat.le_of_ble_eq_true rfl, Nat.zero_le _, Nat.zero_le _⟩ (Nat.le_of_ble_eq_true rfl) dX3_distance_54 hp9 ?_
  refine aw_nmI (fun x4_57 e9 => ?_)
  have hw := hw x4_57 e9
  refine aw_istore (pc := 57) C dX3_distance_57 (by rw [hml]; decide) ?_
  refine aw_iload_n (pc := 59) C dX3_distance_59 rfl rfl ?_
  refine aw_aload_n (pc := 60) C dX3_distance_60 rfl rfl ?_
  obtain ⟨hp9, b61, hb9, hw⟩ := hw
  refine aw_getR (pc := 61) C (ci := 3) (k := 5) ci3 (by decide) tw105 dX3_distance_61 rfl hp9 hb9 ?_
  obtain ⟨hp9, b64, hb9, hw⟩ := hw
  refine aw_getR (pc := 64) C (ci := 4) (k := 0) ci4 (by decide) tw68 dX3_distance_64 rfl hp9 hb9 ?_
  refine aw_iconst (pc := 67) C dX3_distance_67 (i := (0 : Int)) (by decide) ?_
  obtain ⟨⟨k9, hp9⟩, hw⟩ := hw
  refine aw_iald (pc := 68) C dX3_distance_68 hp9 ?_
  refine aw_iload (pc := 69) C dX3_distance_69 rfl ?_
  obtain ⟨hp9, hw⟩ := hw
  refine aw_imul (pc := 71) C dX3_distance_71 hp9 ?_
  obtain ⟨hp9, hw⟩ := hw
  refine aw_iadd (pc := 72) C dX3_distance_72 hp9 ?_
  exact aw_iret (pc := 73) C hr dX3_distance_73 ⟨Nat.le_of_ble_eq_true rfl, Nat.le_of_ble_eq_true rfl⟩ ⟨_, rfl, hw⟩
theorem dX5_clear_0 : decode cX5_clear 0 = .ok (.aload_n 0, 1) := by decide +kernel
theorem dX5_clear_1 : decode cX5_clear 1 = .ok (.getfield 9, 3) := by decide +kernel
theorem dX5_clear_4 : decode cX5_clear 4 = .ok (.bipush 32, 2) := by decide +kernel
theorem dX5_clear_6 : decode cX5_clear 6 = .ok (.invokestatic 22, 3) := by decide +kernel
theorem dX5_clear_9 : decode cX5_clear 9 = .ok (.aload_n 0, 1) := by decide +kernel
theorem dX5_clear_10 : decode cX5_clear 10 = .ok (.iconst 0, 1) := by decide +kernel
theorem dX5_clear_11 : decode cX5_clear 11 = .ok (.putfield 18, 3) := by decide +kernel
theorem dX5_clear_14 : decode cX5_clear 14 = .ok (.return_, 1) := by decide +kernel
theorem pd_X5_clear : (parseMethodDescriptor yX5_clear.desc).map (fun d => d.parameters.length) = some 0 := by decide +kernel
def w_X5_clear (zz : Nat → Nat) (a0 : Nat) (h : AH) (Q : AH → Prop) : Prop := okA h a0 5 ∧ ∃ b1 : Nat, hfR h a0 0 = some b1 ∧ w_J7_fill_53178 zz b1 (32 : Int) h (fun  (h6 : AH) => okP h6 a0 5 ∧ ∀ h11 : AH, h11 = sfI h6 a0 2 (0 : Int) → Q h11)
set_option maxRecDepth 100000 in
set_option maxHeartbeats 4000000 in
theorem met_X5_clear (G : GG) (l : Launch) : ∀ (As : List Value) (a0 : Nat) (h : AH) (Q : AH → Prop), As.map ab = List.map some ([vR a0] : List AV) → w_X5_clear G.2.2 a0 h Q → Met l yX5_clear (.code yX5_clear cX5_clear 1 none :: xTb) ({ frames := 1, cells := 0, slots := 0, locals := 23 } : Room) (PcA G As h) (QG G (oV Q)) 0 0 (frA G) := by
  intro As a0 h Q hA hw
  refine met_of hA (by decide) (Nat.le_of_ble_eq_true rfl) (fun p e s m args below meth c C hml hr hnm => ?_)
  unfold w_X5_clear at hw
  refine aw_aload_n (pc := 0) C dX5_clear_0 rfl rfl ?_
  obtain ⟨hp9, b1, hb9, hw⟩ := hw
  refine aw_getR (pc := 1) C (ci := 5) (k := 0) ci5 (by decide) tw43 dX5_clear_1 rfl hp9 hb9 ?_
  refine aw_bipush (pc := 4) C dX5_clear_4 (i := (32 : Int)) (by decide) ?_
  refine aw_callS (pc := 6) (as := [vR b1, vI (32 : Int)]) C (fun As hA => met_J7_fill_53178 G l As b1 (32 : Int) _ _ hA hw) tw40 tw41 tw4 tw42 ⟨rfl, rfl⟩ ⟨by decide, by decide, pd_J7_fill_53178⟩ ⟨Nat.le_of_ble_eq_true rfl, Nat.le_of_ble_eq_true rfl⟩ ⟨Nat.zero_le _, Nat.zero_le _⟩ (Nat.le_of_ble_eq_true rfl) dX5_clear_6 rfl (fun v9 h6 hq9 => ?_)
  obtain ⟨rfl, hw⟩ := hq9
  refine aw_aload_n (pc := 9) C dX5_clear_9 rfl rfl ?_
  refine aw_iconst (pc := 10) C dX5_clear_10 (i := (0 : Int)) (by decide) ?_
  obtain ⟨hp9, hw⟩ := hw
  refine aw_putI (pc := 11) C (ci := 5) (k := 2) ci5 (by decide) tw48 (Or.inl rfl) dX5_clear_11 rfl hp9 (aw_nmH (fun h11 e9 => ?_))
  have hw := hw h11 e9
  exact aw_vret (pc := 14) C hr dX5_clear_14 ⟨Nat.le_of_ble_eq_true rfl, Nat.le_of_ble_eq_true rfl⟩ ⟨rfl, hw⟩
theorem dX5_numberLetters_0 : decode cX5_numberLetters 0 = .ok (.aload_n 0, 1) := by decide +kernel
theorem dX5_numberLetters_1 : decode cX5_numberLetters 1 = .ok (.iconst 0, 1) := by decide +kernel
theorem dX5_numberLetters_2 : decode cX5_numberLetters 2 = .ok (.putfield 18, 3) := by decide +kernel
theorem dX5_numberLetters_5 : decode cX5_numberLetters 5 = .ok (.iconst 0, 1) := by decide +kernel
theorem dX5_numberLetters_6 : decode cX5_numberLetters 6 = .ok (.istore_n 1, 1) := by decide +kernel
theorem dX5_numberLetters_7 : decode cX5_numberLetters 7 = .ok (.iload_n 1, 1) := by decide +kernel
theorem dX5_numberLetters_8 : decode cX5_numberLetters 8 = .ok (.bipush 80, 2) := by decide +kernel
theorem dX5_numberLetters_10 : decode cX5_numberLetters 10 = .ok (.if_icmp .ge 49, 3) := by decide +kernel
theorem dX5_numberLetters_13 : decode cX5_numberLetters 13 = .ok (.aload_n 0, 1) := by decide +kernel
theorem dX5_numberLetters_14 : decode cX5_numberLetters 14 = .ok (.getfield 9, 3) := by decide +kernel
theorem dX5_numberLetters_17 : decode cX5_numberLetters 17 = .ok (.iload_n 1, 1) := by decide +kernel
theorem dX5_numberLetters_18 : decode cX5_numberLetters 18 = .ok (.iaload, 1) := by decide +kernel
theorem dX5_numberLetters_19 : decode cX5_numberLetters 19 = .ok (.bipush 32, 2) := by decide +kernel
theorem dX5_numberLetters_21 : decode cX5_numberLetters 21 = .ok (.if_icmp .eq 32, 3) := by decide +kernel
theorem dX5_numberLetters_24 : decode cX5_numberLetters 24 = .ok (.aload_n 0, 1) := by decide +kernel
theorem dX5_numberLetters_25 : decode cX5_numberLetters 25 = .ok (.getfield 18, 3) := by decide +kernel
theorem dX5_numberLetters_28 : decode cX5_numberLetters 28 = .ok (.bipush 40, 2) := by decide +kernel
theorem dX5_numberLetters_30 : decode cX5_numberLetters 30 = .ok (.if_icmp .ge 23, 3) := by decide +kernel
theorem dX5_numberLetters_33 : decode cX5_numberLetters 33 = .ok (.aload_n 0, 1) := by decide +kernel
theorem dX5_numberLetters_34 : decode cX5_numberLetters 34 = .ok (.getfield 15, 3) := by decide +kernel
theorem dX5_numberLetters_37 : decode cX5_numberLetters 37 = .ok (.aload_n 0, 1) := by decide +kernel
theorem dX5_numberLetters_38 : decode cX5_numberLetters 38 = .ok (.getfield 18, 3) := by decide +kernel
theorem dX5_numberLetters_41 : decode cX5_numberLetters 41 = .ok (.iload_n 1, 1) := by decide +kernel
theorem dX5_numberLetters_42 : decode cX5_numberLetters 42 = .ok (.iastore, 1) := by decide +kernel
theorem dX5_numberLetters_43 : decode cX5_numberLetters 43 = .ok (.aload_n 0, 1) := by decide +kernel
theorem dX5_numberLetters_44 : decode cX5_numberLetters 44 = .ok (.dup, 1) := by decide +kernel
theorem dX5_numberLetters_45 : decode cX5_numberLetters 45 = .ok (.getfield 18, 3) := by decide +kernel
theorem dX5_numberLetters_48 : decode cX5_numberLetters 48 = .ok (.iconst 1, 1) := by decide +kernel
theorem dX5_numberLetters_49 : decode cX5_numberLetters 49 = .ok (.iadd, 1) := by decide +kernel
theorem dX5_numberLetters_50 : decode cX5_numberLetters 50 = .ok (.putfield 18, 3) := by decide +kernel
theorem dX5_numberLetters_53 : decode cX5_numberLetters 53 = .ok (.iinc 1 1, 3) := by decide +kernel
theorem dX5_numberLetters_56 : decode cX5_numberLetters 56 = .ok (.goto (-49), 3) := by decide +kernel
theorem dX5_numberLetters_59 : decode cX5_numberLetters 59 = .ok (.return_, 1) := by decide +kernel
theorem pd_X5_numberLetters : (parseMethodDescriptor yX5_numberLetters.desc).map (fun d => d.parameters.length) = some 0 := by decide +kernel
def w_X5_numberLetters (zz : Nat → Nat) (a0 : Nat) (h : AH) (Q : AH → Prop) : Prop := okP h a0 5 ∧ ∀ h2 : AH, h2 = sfI h a0 2 (0 : Int) → ∃ I_7 : Nat → Int → AH → Prop, (∃ n, I_7 n (0 : Int) h2) ∧ ∀ (n_7 : Nat) (x1_7 : Int) (h_7 : AH), I_7 n_7 x1_7 h_7 → ((((80 : Int) ≤ x1_7) → Q h_7) ∧ ((¬ ((80 : Int) ≤ x1_7)) → okA h_7 a0 5 ∧ ∃ b14 : Nat, hfR h_7 a0 0 = some b14 ∧ okI h_7 b14 x1_7 ∧ jn (fun  (h_53 : AH) => inR (x1_7 + 1) ∧ ∀ x1_53 : Int, x1_53 = (x1_7 + 1) → ∃ m, m < n_7 ∧ I_7 m x1_53 h_53) (fun k_53 : AH → Prop => (((haI h_7 b14 x1_7) = (32 : Int)) → k_53  h_7) ∧ ((¬ ((haI h_7 b14 x1_7) = (32 : Int))) → okA h_7 a0 5 ∧ (((40 : Int) ≤ (hfI h_7 a0 2)) → k_53  h_7) ∧ ((¬ ((40 : Int) ≤ (hfI h_7 a0 2))) → okA h_7 a0 5 ∧ ∃ b34 : Nat, hfR h_7 a0 1 = some b34 ∧ okA h_7 a0 5 ∧ okW h_7 b34 (hfI h_7 a0 2) ∧ ∀ h42 : AH, h42 = saI h_7 b34 (u1 (haI h_7 b34) (hfI h_7 a0 2) x1_7) → okA h42 a0 5 ∧ inR ((hfI h42 a0 2) + (1 : Int)) ∧ okP h42 a0 5 ∧ ∀ h50 : AH, h50 = sfI h42 a0 2 ((hfI h42 a0 2) + (1 : Int)) → k_53  h50)))))
set_option maxRecDepth 100000 in
set_option maxHeartbeats 4000000 in
theorem met_X5_numberLetters (G : GG) (l : Launch) : ∀ (As : List Value) (a0 : Nat) (h : AH) (Q : AH → Prop), As.map ab = List.map some ([vR a0] : List AV) → w_X5_numberLetters G.2.2 a0 h Q → Met l yX5_numberLetters (.code yX5_numberLetters cX5_numberLetters 2 none :: xTb) ({ frames := 0, cells := 0, slots := 0, locals := 0 } : Room) (PcA G As h) (QG G (oV Q)) 0 0 (frA G) := by
  intro As a0 h Q hA hw
  refine met_of hA (by decide) (Nat.le_of_ble_eq_true rfl) (fun p e s m args below meth c C hml hr hnm => ?_)
  unfold w_X5_numberLetters at hw
  refine aw_aload_n (pc := 0) C dX5_numberLetters_0 rfl rfl ?_
  refine aw_iconst (pc := 1) C dX5_numberLetters_1 (i := (0 : Int)) (by decide) ?_
  obtain ⟨hp9, hw⟩ := hw
  refine aw_putI (pc := 2) C (ci := 5) (k := 2) ci5 (by decide) tw48 (Or.inl rfl) dX5_numberLetters_2 rfl hp9 (aw_nmH (fun h2 e9 => ?_))
  have hw := hw h2 e9
  refine aw_iconst (pc := 5) C dX5_numberLetters_5 (i := (0 : Int)) (by decide) ?_
  refine aw_istore_n (pc := 6) C dX5_numberLetters_6 rfl (by rw [hml]; decide) ?_
  obtain ⟨I_7, ⟨n9, hi9⟩, hst9⟩ := hw
  have L_7 : ∀ (n_7 : Nat) (x1_7 : Int) (h_7 : AH), I_7 n_7 x1_7 h_7 → AW G p l e ({ frames := 0, cells := 0, slots := 0, locals := 0 } : Room) s m args below meth c 0 0 (MQ below (QG G (oV Q)) args s 0 0 (frA G)) 7 (eOf [(0, vR a0), (1, vI x1_7)]) [] h_7 := by
    intro n_7
    induction n_7 using Nat.strongRecOn with
    | _ n_7 ih_7 =>
    intro x1_7 h_7 hi9
    have hw := hst9 n_7 x1_7 h_7 hi9
    refine aw_iload_n (pc := 7) C dX5_numberLetters_7 rfl rfl ?_
    refine aw_bipush (pc := 8) C dX5_numberLetters_8 (i := (80 : Int)) (by decide) ?_
    refine aw_icmp_ge (pc := 10) (tgt := 59) C dX5_numberLetters_10 (by decide) (fun hc9 => ?_) (fun hc9 => ?_)
    · have hw := hw.1 hc9
      exact aw_vret (pc := 59) C hr dX5_numberLetters_59 ⟨Nat.le_of_ble_eq_true rfl, Nat.le_of_ble_eq_true rfl⟩ ⟨rfl, hw⟩
    · have hw := hw.2 hc9
      refine aw_aload_n (pc := 13) C dX5_numberLetters_13 rfl rfl ?_
      obtain ⟨hp9, b14, hb9, hw⟩ := hw
      refine aw_getR (pc := 14) C (ci := 5) (k := 0) ci5 (by decide) tw43 dX5_numberLetters_14 rfl hp9 hb9 ?_
      refine aw_iload_n (pc := 17) C dX5_numberLetters_17 rfl rfl ?_
      obtain ⟨⟨k9, hp9⟩, hw⟩ := hw
      refine aw_iald (pc := 18) C dX5_numberLetters_18 hp9 ?_
      refine aw_bipush (pc := 19) C dX5_numberLetters_19 (i := (32 : Int)) (by decide) ?_
      obtain ⟨k_53, hk_53, hw⟩ := jn_out hw
      have J_53 : ∀  (h_53 : AH), k_53  h_53 → AW G p l e ({ frames := 0, cells := 0, slots := 0, locals := 0 } : Room) s m args below meth c 0 0 (MQ below (QG G (oV Q)) args s 0 0 (frA G)) 53 (eOf [(0, vR a0), (1, vI x1_7)]) [] h_53 := by
        intro  h_53 hw
        rw [hk_53] at hw
        obtain ⟨hp9, hw⟩ := hw
        refine aw_iincN (pc := 53) C dX5_numberLetters_53 (k := 1) (by decide) rfl (by rw [hml]; decide) hp9 (fun x1_53 e9 => ?_)
        have hw := hw x1_53 e9
        refine aw_goto (pc := 56) (tgt := 7) C dX5_numberLetters_56 (by decide) ?_
        obtain ⟨m9, hm9, hw⟩ := hw
        refine aw_sub [(0, vR a0), (1, vI x1_53)] ⟨rfl, rfl, trivial⟩ ?_
        exact ih_7 m9 hm9 _ _ hw
      refine aw_icmp_eq (pc := 21) (tgt := 53) C dX5_numberLetters_21 (by decide) (fun hc9 => ?_) (fun hc9 => ?_)
      · have hw := hw.1 hc9
        refine aw_sub [(0, vR a0), (1, vI x1_7)] ⟨rfl, rfl, trivial⟩ ?_
        exact J_53  _ hw
      · have hw := hw.2 hc9
        refine aw_aload_n (pc := 24) C dX5_numberLetters_24 rfl rfl ?_
        obtain ⟨hp9, hw⟩ := hw
        refine aw_getI (pc := 25) C (ci := 5) (k := 2) ci5 (by decide) tw48 dX5_numberLetters_25 rfl hp9 ?_
        refine aw_bipush (pc := 28) C dX5_numberLetters_28 (i := (40 : Int)) (by decide) ?_
        refine aw_icmp_ge (pc := 30) (tgt := 53) C dX5_numberLetters_30 (by decide) (fun hc9 => ?_) (fun hc9 => ?_)
        · have hw := hw.1 hc9
          refine aw_sub [(0, vR a0), (1, vI x1_7)] ⟨rfl, rfl, trivial⟩ ?_
          exact J_53  _ hw
        · have hw := hw.2 hc9
          refine aw_aload_n (pc := 33) C dX5_numberLetters_33 rfl rfl ?_
          obtain ⟨hp9, b34, hb9, hw⟩ := hw
          refine aw_getR (pc := 34) C (ci := 5) (k := 1) ci5 (by decide) tw45 dX5_numberLetters_34 rfl hp9 hb9 ?_
          refine aw_aload_n (pc := 37) C dX5_numberLetters_37 rfl rfl ?_
          obtain ⟨hp9, hw⟩ := hw
          refine aw_getI (pc := 38) C (ci := 5) (k := 2) ci5 (by decide) tw48 dX5_numberLetters_38 rfl hp9 ?_
          refine aw_iload_n (pc := 41) C dX5_numberLetters_41 rfl rfl ?_
          obtain ⟨⟨k9, hp9⟩, hw⟩ := hw
          refine aw_iast (pc := 42) C dX5_numberLetters_42 hp9 (aw_nmH (fun h42 e9 => ?_))
          have hw := hw h42 e9
          refine aw_aload_n (pc := 43) C dX5_numberLetters_43 rfl rfl ?_
          refine aw_dup (pc := 44) C dX5_numberLetters_44 rfl ?_
          obtain ⟨hp9, hw⟩ := hw
          refine aw_getI (pc := 45) C (ci := 5) (k := 2) ci5 (by decide) tw48 dX5_numberLetters_45 rfl hp9 ?_
          refine aw_iconst (pc := 48) C dX5_numberLetters_48 (i := (1 : Int)) (by decide) ?_
          obtain ⟨hp9, hw⟩ := hw
          refine aw_iadd (pc := 49) C dX5_numberLetters_49 hp9 ?_
          obtain ⟨hp9, hw⟩ := hw
          refine aw_putI (pc := 50) C (ci := 5) (k := 2) ci5 (by decide) tw48 (Or.inl rfl) dX5_numberLetters_50 rfl hp9 (aw_nmH (fun h50 e9 => ?_))
          have hw := hw h50 e9
          refine aw_sub [(0, vR a0), (1, vI x1_7)] ⟨rfl, rfl, trivial⟩ ?_
          exact J_53  _ hw
  refine aw_sub [(0, vR a0), (1, vI (0 : Int))] ⟨rfl, rfl, trivial⟩ ?_
  exact L_7 n9 _ _ hi9
theorem dX5_write_0 : decode cX5_write 0 = .ok (.aload_n 0, 1) := by decide +kernel
theorem dX5_write_1 : decode cX5_write 1 = .ok (.getfield 9, 3) := by decide +kernel
theorem dX5_write_4 : decode cX5_write 4 = .ok (.iload_n 1, 1) := by decide +kernel
theorem dX5_write_5 : decode cX5_write 5 = .ok (.iload_n 2, 1) := by decide +kernel
theorem dX5_write_6 : decode cX5_write 6 = .ok (.iastore, 1) := by decide +kernel
theorem dX5_write_7 : decode cX5_write 7 = .ok (.aload_n 0, 1) := by decide +kernel
theorem dX5_write_8 : decode cX5_write 8 = .ok (.invokevirtual 34, 3) := by decide +kernel
theorem dX5_write_11 : decode cX5_write 11 = .ok (.return_, 1) := by decide +kernel
theorem pd_X5_write : (parseMethodDescriptor yX5_write.desc).map (fun d => d.parameters.length) = some 2 := by decide +kernel
def w_X5_write (zz : Nat → Nat) (a0 : Nat) (a1 : Int) (a2 : Int) (h : AH) (Q : AH → Prop) : Prop := okA h a0 5 ∧ ∃ b1 : Nat, hfR h a0 0 = some b1 ∧ okW h b1 a1 ∧ ∀ h6 : AH, h6 = saI h b1 (u1 (haI h b1) a1 a2) → okA h6 a0 5 ∧ w_X5_numberLetters zz a0 h6 (fun  (h8 : AH) => Q h8)
set_option maxRecDepth 100000 in
set_option maxHeartbeats 4000000 in
theorem met_X5_write (G : GG) (l : Launch) : ∀ (As : List Value) (a0 : Nat) (a1 : Int) (a2 : Int) (h : AH) (Q : AH → Prop), As.map ab = List.map some ([vR a0, vI a1, vI a2] : List AV) → w_X5_write G.2.2 a0 a1 a2 h Q → Met l yX5_write (.code yX5_write cX5_write 3 none :: xTb) ({ frames := 1, cells := 0, slots := 0, locals := 21 } : Room) (PcA G As h) (QG G (oV Q)) 0 0 (frA G) := by
  intro As a0 a1 a2 h Q hA hw
  refine met_of hA (by decide) (Nat.le_of_ble_eq_true rfl) (fun p e s m args below meth c C hml hr hnm => ?_)
  unfold w_X5_write at hw
  refine aw_aload_n (pc := 0) C dX5_write_0 rfl rfl ?_
  obtain ⟨hp9, b1, hb9, hw⟩ := hw
  refine aw_getR (pc := 1) C (ci := 5) (k := 0) ci5 (by decide) tw43 dX5_write_1 rfl hp9 hb9 ?_
  refine aw_iload_n (pc := 4) C dX5_write_4 rfl rfl ?_
  refine aw_iload_n (pc := 5) C dX5_write_5 rfl rfl ?_
  obtain ⟨⟨k9, hp9⟩, hw⟩ := hw
  refine aw_iast (pc := 6) C dX5_write_6 hp9 (aw_nmH (fun h6 e9 => ?_))
  have hw := hw h6 e9
  refine aw_aload_n (pc := 7) C dX5_write_7 rfl rfl ?_
  obtain ⟨hp9, hw⟩ := hw
  refine aw_callV (pc := 8) (as := []) C ci5 (fun As hA => met_X5_numberLetters G l As a0 _ _ hA hw) tw654 tw656 (tbp 31 (n := 3) (by decide +kernel)) tw3 tw657 ⟨rfl, rfl⟩ ⟨rfl, by decide, by decide, pd_X5_numberLetters⟩ ⟨Nat.le_of_ble_eq_true rfl, Nat.le_of_ble_eq_true rfl⟩ ⟨Nat.zero_le _, Nat.zero_le _⟩ (Nat.le_of_ble_eq_true rfl) dX5_write_8 rfl hp9 (fun v9 h8 hq9 => ?_)
  obtain ⟨rfl, hw⟩ := hq9
  exact aw_vret (pc := 11) C hr dX5_write_11 ⟨Nat.le_of_ble_eq_true rfl, Nat.le_of_ble_eq_true rfl⟩ ⟨rfl, hw⟩
theorem dX3_mayBePaired_0 : decode cX3_mayBePaired 0 = .ok (.aload_n 0, 1) := by decide +kernel
theorem dX3_mayBePaired_1 : decode cX3_mayBePaired 1 = .ok (.getfield 9, 3) := by decide +kernel
theorem dX3_mayBePaired_4 : decode cX3_mayBePaired 4 = .ok (.iload_n 1, 1) := by decide +kernel
theorem dX3_mayBePaired_5 : decode cX3_mayBePaired 5 = .ok (.iaload, 1) := by decide +kernel
theorem dX3_mayBePaired_6 : decode cX3_mayBePaired 6 = .ok (.iconst (-1), 1) := by decide +kernel
theorem dX3_mayBePaired_7 : decode cX3_mayBePaired 7 = .ok (.if_icmp .ne 13, 3) := by decide +kernel
theorem dX3_mayBePaired_10 : decode cX3_mayBePaired 10 = .ok (.aload_n 0, 1) := by decide +kernel
theorem dX3_mayBePaired_11 : decode cX3_mayBePaired 11 = .ok (.getfield 15, 3) := by decide +kernel
theorem dX3_mayBePaired_14 : decode cX3_mayBePaired 14 = .ok (.iload_n 2, 1) := by decide +kernel
theorem dX3_mayBePaired_15 : decode cX3_mayBePaired 15 = .ok (.iaload, 1) := by decide +kernel
theorem dX3_mayBePaired_16 : decode cX3_mayBePaired 16 = .ok (.iconst (-1), 1) := by decide +kernel
theorem dX3_mayBePaired_17 : decode cX3_mayBePaired 17 = .ok (.if_icmp .eq 5, 3) := by decide +kernel
theorem dX3_mayBePaired_20 : decode cX3_mayBePaired 20 = .ok (.iconst 0, 1) := by decide +kernel
theorem dX3_mayBePaired_21 : decode cX3_mayBePaired 21 = .ok (.ireturn, 1) := by decide +kernel
theorem dX3_mayBePaired_22 : decode cX3_mayBePaired 22 = .ok (.iload_n 3, 1) := by decide +kernel
theorem dX3_mayBePaired_23 : decode cX3_mayBePaired 23 = .ok (.iconst 2, 1) := by decide +kernel
theorem dX3_mayBePaired_24 : decode cX3_mayBePaired 24 = .ok (.if_icmp .ne 32, 3) := by decide +kernel
theorem dX3_mayBePaired_27 : decode cX3_mayBePaired 27 = .ok (.aload_n 0, 1) := by decide +kernel
theorem dX3_mayBePaired_28 : decode cX3_mayBePaired 28 = .ok (.getfield 30, 3) := by decide +kernel
theorem dX3_mayBePaired_31 : decode cX3_mayBePaired 31 = .ok (.iconst 0, 1) := by decide +kernel
theorem dX3_mayBePaired_32 : decode cX3_mayBePaired 32 = .ok (.invokevirtual 49, 3) := by decide +kernel
theorem dX3_mayBePaired_35 : decode cX3_mayBePaired 35 = .ok (.iload_n 1, 1) := by decide +kernel
theorem dX3_mayBePaired_36 : decode cX3_mayBePaired 36 = .ok (.invokevirtual 88, 3) := by decide +kernel
theorem dX3_mayBePaired_39 : decode cX3_mayBePaired 39 = .ok (.aload_n 0, 1) := by decide +kernel
theorem dX3_mayBePaired_40 : decode cX3_mayBePaired 40 = .ok (.getfield 30, 3) := by decide +kernel
theorem dX3_mayBePaired_43 : decode cX3_mayBePaired 43 = .ok (.iconst 1, 1) := by decide +kernel
theorem dX3_mayBePaired_44 : decode cX3_mayBePaired 44 = .ok (.invokevirtual 49, 3) := by decide +kernel
theorem dX3_mayBePaired_47 : decode cX3_mayBePaired 47 = .ok (.iload_n 2, 1) := by decide +kernel
theorem dX3_mayBePaired_48 : decode cX3_mayBePaired 48 = .ok (.invokevirtual 88, 3) := by decide +kernel
theorem dX3_mayBePaired_51 : decode cX3_mayBePaired 51 = .ok (.if_icmp .eq 5, 3) := by decide +kernel
theorem dX3_mayBePaired_54 : decode cX3_mayBePaired 54 = .ok (.iconst 0, 1) := by decide +kernel
theorem dX3_mayBePaired_55 : decode cX3_mayBePaired 55 = .ok (.ireturn, 1) := by decide +kernel
theorem dX3_mayBePaired_56 : decode cX3_mayBePaired 56 = .ok (.aload_n 0, 1) := by decide +kernel
theorem dX3_mayBePaired_57 : decode cX3_mayBePaired 57 = .ok (.getfield 30, 3) := by decide +kernel
theorem dX3_mayBePaired_60 : decode cX3_mayBePaired 60 = .ok (.getfield 40, 3) := by decide +kernel
theorem dX3_mayBePaired_63 : decode cX3_mayBePaired 63 = .ok (.iconst 3, 1) := by decide +kernel
theorem dX3_mayBePaired_64 : decode cX3_mayBePaired 64 = .ok (.iaload, 1) := by decide +kernel
theorem dX3_mayBePaired_65 : decode cX3_mayBePaired 65 = .ok (.ifCond .eq 30, 3) := by decide +kernel
theorem dX3_mayBePaired_68 : decode cX3_mayBePaired 68 = .ok (.aload_n 0, 1) := by decide +kernel
theorem dX3_mayBePaired_69 : decode cX3_mayBePaired 69 = .ok (.getfield 30, 3) := by decide +kernel
theorem dX3_mayBePaired_72 : decode cX3_mayBePaired 72 = .ok (.iconst 0, 1) := by decide +kernel
theorem dX3_mayBePaired_73 : decode cX3_mayBePaired 73 = .ok (.invokevirtual 49, 3) := by decide +kernel
theorem dX3_mayBePaired_76 : decode cX3_mayBePaired 76 = .ok (.iload_n 1, 1) := by decide +kernel
theorem dX3_mayBePaired_77 : decode cX3_mayBePaired 77 = .ok (.invokevirtual 64, 3) := by decide +kernel
theorem dX3_mayBePaired_80 : decode cX3_mayBePaired 80 = .ok (.aload_n 0, 1) := by decide +kernel
theorem dX3_mayBePaired_81 : decode cX3_mayBePaired 81 = .ok (.getfield 30, 3) := by decide +kernel
theorem dX3_mayBePaired_84 : decode cX3_mayBePaired 84 = .ok (.iconst 1, 1) := by decide +kernel
theorem dX3_mayBePaired_85 : decode cX3_mayBePaired 85 = .ok (.invokevirtual 49, 3) := by decide +kernel
theorem dX3_mayBePaired_88 : decode cX3_mayBePaired 88 = .ok (.iload_n 2, 1) := by decide +kernel
theorem dX3_mayBePaired_89 : decode cX3_mayBePaired 89 = .ok (.invokevirtual 64, 3) := by decide +kernel
theorem dX3_mayBePaired_92 : decode cX3_mayBePaired 92 = .ok (.if_icmp .ne 7, 3) := by decide +kernel
theorem dX3_mayBePaired_95 : decode cX3_mayBePaired 95 = .ok (.iconst 1, 1) := by decide +kernel
theorem dX3_mayBePaired_96 : decode cX3_mayBePaired 96 = .ok (.goto 4, 3) := by decide +kernel
theorem dX3_mayBePaired_99 : decode cX3_mayBePaired 99 = .ok (.iconst 0, 1) := by decide +kernel
theorem dX3_mayBePaired_100 : decode cX3_mayBePaired 100 = .ok (.ireturn, 1) := by decide +kernel
theorem pd_X3_mayBePaired : (parseMethodDescriptor yX3_mayBePaired.desc).map (fun d => d.parameters.length) = some 3 := by decide +kernel
def w_X3_mayBePaired (zz : Nat → Nat) (a0 : Nat) (a1 : Int) (a2 : Int) (a3 : Int) (h : AH) (Q : Int → AH → Prop) : Prop := okA h a0 3 ∧ ∃ b1 : Nat, hfR h a0 0 = some b1 ∧ okI h b1 a1 ∧ jn (fun  (h_20 : AH) => ((0 : Int) = 0 ∨ (0 : Int) = 1) ∧ Q (0 : Int) h_20) (fun k_20 : AH → Prop => ((¬ (haI h b1 a1) = (-1 : Int)) → k_20  h) ∧ (((haI h b1 a1) = (-1 : Int)) → okA h a0 3 ∧ ∃ b11 : Nat, hfR h a0 1 = some b11 ∧ okI h b11 a2 ∧ (((haI h b11 a2) = (-1 : Int)) → jn (fun  (h_56 : AH) => okA h_56 a0 3 ∧ ∃ b57 : Nat, hfR h_56 a0 5 = some b57 ∧ okA h_56 b57 4 ∧ ∃ b60 : Nat, hfR h_56 b57 0 = some b60 ∧ okI h_56 b60 (3 : Int) ∧ jn (fun (t0_100 : Int) (h_100 : AH) => (t0_100 = 0 ∨ t0_100 = 1) ∧ Q t0_100 h_100) (fun k_100 : Int → AH → Prop => jn (fun  (h_95 : AH) => k_100 (1 : Int) h_95) (fun k_95 : AH → Prop => (((haI h_56 b60 (3 : Int)) = 0) → k_95  h_56) ∧ ((¬ ((haI h_56 b60 (3 : Int)) = 0)) → okA h_56 a0 3 ∧ ∃ b69 : Nat, hfR h_56 a0 5 = some b69 ∧ okA h_56 b69 4 ∧ w_X4_text zz b69 (0 : Int) h_56 (fun (r73 : Nat) (h73 : AH) => okA h73 r73 5 ∧ w_X5_rowOf zz r73 a1 h73 (fun (r77 : Int) (h77 : AH) => okA h77 a0 3 ∧ ∃ b81 : Nat, hfR h77 a0 5 = some b81 ∧ okA h77 b81 4 ∧ w_X4_text zz b81 (1 : Int) h77 (fun (r85 : Nat) (h85 : AH) => okA h85 r85 5 ∧ w_X5_rowOf zz r85 a2 h85 (fun (r89 : Int) (h89 : AH) => ((¬ r77 = r89) → k_100 (0 : Int) h89) ∧ ((r77 = r89) → k_95  h89))))))))) (fun k_56 : AH → Prop => ((¬ a3 = (2 : Int)) → k_56  h) ∧ ((a3 = (2 : Int)) → okA h a0 3 ∧ ∃ b28 : Nat, hfR h a0 5 = some b28 ∧ okA h b28 4 ∧ w_X4_text zz b28 (0 : Int) h (fun (r32 : Nat) (h32 : AH) => okA h32 r32 5 ∧ w_X5_codeOf zz r32 a1 h32 (fun (r36 : Int) (h36 : AH) => okA h36 a0 3 ∧ ∃ b40 : Nat, hfR h36 a0 5 = some b40 ∧ okA h36 b40 4 ∧ w_X4_text zz b40 (1 : Int) h36 (fun (r44 : Nat) (h44 : AH) => okA h44 r44 5 ∧ w_X5_codeOf zz r44 a2 h44 (fun (r48 : Int) (h48 : AH) => ((r36 = r48) → k_56  h48) ∧ ((¬ (r36 = r48)) → ((0 : Int) = 0 ∨ (0 : Int) = 1) ∧ Q (0 : Int) h48)))))))) ∧ ((¬ ((haI h b11 a2) = (-1 : Int))) → k_20  h)))
set_option maxRecDepth 100000 in
set_option maxHeartbeats 4000000 in
theorem met_X3_mayBePaired (G : GG) (l : Launch) : ∀ (As : List Value) (a0 : Nat) (a1 : Int) (a2 : Int) (a3 : Int) (h : AH) (Q : Int → AH → Prop), As.map ab = List.map some ([vR a0, vI a1, vI a2, vI a3] : List AV) → w_X3_mayBePaired G.2.2 a0 a1 a2 a3 h Q → Met l yX3_mayBePaired (.code yX3_mayBePaired cX3_mayBePaired 4 (some .boolean) :: xTb) ({ frames := 1, cells := 0, slots := 0, locals := 21 } : Room) (PcA G As h) (QG G (oI Q)) 0 0 (frA G) := by
  intro As a0 a1 a2 a3 h Q hA hw
  refine met_of hA (by decide) (Nat.le_of_ble_eq_true rfl) (fun p e s m args below meth c C hml hr hnm => ?_)
  unfold w_X3_mayBePaired at hw
  refine aw_aload_n (pc := 0) C dX3_mayBePaired_0 rfl rfl ?_
  obtain ⟨hp9, b1, hb9, hw⟩ := hw
  refine aw_getR (pc := 1) C (ci := 3) (k := 0) ci3 (by decide) tw92 dX3_mayBePaired_1 rfl hp9 hb9 ?_
  refine aw_iload_n (pc := 4) C dX3_mayBePaired_4 rfl rfl ?_
  obtain ⟨⟨k9, hp9⟩, hw⟩ := hw
  refine aw_iald (pc := 5) C dX3_mayBePaired_5 hp9 ?_
  refine aw_iconst (pc := 6) C dX3_mayBePaired_6 (i := (-1 : Int)) (by decide) ?_
  obtain ⟨k_20, hk_20, hw⟩ := jn_out hw
  have J_20 : ∀  (h_20 : AH), k_20  h_20 → AW G p l e ({ frames := 1, cells := 0, slots := 0, locals := 21 } : Room) s m args below meth c 0 0 (MQ below (QG G (oI Q)) args s 0 0 (frA G)) 20 (eOf []) [] h_20 := by
    intro  h_20 hw
    rw [hk_20] at hw
    refine aw_iconst (pc := 20) C dX3_mayBePaired_20 (i := (0 : Int)) (by decide) ?_
    obtain ⟨hp9, hw⟩ := hw
    exact aw_zret (pc := 21) C hr dX3_mayBePaired_21 ⟨Nat.le_of_ble_eq_true rfl, Nat.le_of_ble_eq_true rfl⟩ hp9 ⟨_, rfl, hw⟩
  refine aw_icmp_ne (pc := 7) (tgt := 20) C dX3_mayBePaired_7 (by decide) (fun hc9 => ?_) (fun hc9 => ?_)
  · have hw := hw.1 hc9
    refine aw_sub [] trivial ?_
    exact J_20  _ hw
  · have hw := hw.2 hc9
    refine aw_aload_n (pc := 10) C dX3_mayBePaired_10 rfl rfl ?_
    obtain ⟨hp9, b11, hb9, hw⟩ := hw
    refine aw_getR (pc := 11) C (ci := 3) (k := 1) ci3 (by decide) tw95 dX3_mayBePaired_11 rfl hp9 hb9 ?_
    refine aw_iload_n (pc := 14) C dX3_mayBePaired_14 rfl rfl ?_
    obtain ⟨⟨k9, hp9⟩, hw⟩ := hw
    refine aw_iald (pc := 15) C dX3_mayBePaired_15 hp9 ?_
    refine aw_iconst (pc := 16) C dX3_mayBePaired_16 (i := (-1 : Int)) (by decide) ?_
    refine aw_icmp_eq (pc := 17) (tgt := 22) C dX3_mayBePaired_17 (by decide) (fun hc9 => ?_) (fun hc9 => ?_)
    · have hw := hw.1 hc9
      refine aw_iload_n (pc := 22) C dX3_mayBePaired_22 rfl rfl ?_
      refine aw_iconst (pc := 23) C dX3_mayBePaired_23 (i := (2 : Int)) (by decide) ?_
      obtain ⟨k_56, hk_56, hw⟩ := jn_out hw
      have J_56 : ∀  (h_56 : AH), k_56  h_56 → AW G p l e ({ frames := 1, cells := 0, slots := 0, locals := 21 } : Room) s m args below meth c 0 0 (MQ below (QG G (oI Q)) args s 0 0 (frA G)) 56 (eOf [(0, vR a0), (1, vI a1), (2, vI a2)]) [] h_56 := by
        intro  h_56 hw
        rw [hk_56] at hw
        refine aw_aload_n (pc := 56) C dX3_mayBePaired_56 rfl rfl ?_
        obtain ⟨hp9, b57, hb9, hw⟩ := hw
        refine aw_getR (pc := 57) C (ci := 3) (k := 5) ci3 (by decide) tw105 dX3_mayBePaired_57 rfl hp9 hb9 ?_
        obtain ⟨hp9, b60, hb9, hw⟩ := hw
        refine aw_getR (pc := 60) C (ci := 4) (k := 0) ci4 (by decide) tw68 dX3_mayBePaired_60 rfl hp9 hb9 ?_
        refine aw_iconst (pc := 63) C dX3_mayBePaired_63 (i := (3 : Int)) (by decide) ?_
        obtain ⟨⟨k9, hp9⟩, hw⟩ := hw
        refine aw_iald (pc := 64) C dX3_mayBePaired_64 hp9 ?_
        obtain ⟨k_100, hk_100, hw⟩ := jn_out hw
        have J_100 : ∀ (t0_100 : Int) (h_100 : AH), k_100 t0_100 h_100 → AW G p l e ({ frames := 1, cells := 0, slots := 0, locals := 21 } : Room) s m args below meth c 0 0 (MQ below (QG G (oI Q)) args s 0 0 (frA G)) 100 (eOf []) [vI t0_100] h_100 := by
          intro t0_100 h_100 hw
          rw [hk_100] at hw
          obtain ⟨hp9, hw⟩ := hw
          exact aw_zret (pc := 100) C hr dX3_mayBePaired_100 ⟨Nat.le_of_ble_eq_true rfl, Nat.le_of_ble_eq_true rfl⟩ hp9 ⟨_, rfl, hw⟩
        obtain ⟨k_95, hk_95, hw⟩ := jn_out hw
        have J_95 : ∀  (h_95 : AH), k_95  h_95 → AW G p l e ({ frames := 1, cells := 0, slots := 0, locals := 21 } : Room) s m args below meth c 0 0 (MQ below (QG G (oI Q)) args s 0 0 (frA G)) 95 (eOf []) [] h_95 := by
          intro  h_95 hw
          rw [hk_95] at hw
          refine aw_iconst (pc := 95) C dX3_mayBePaired_95 (i := (1 : Int)) (by decide) ?_
          refine aw_goto (pc := 96) (tgt := 100) C dX3_mayBePaired_96 (by decide) ?_
          refine aw_sub [] trivial ?_
          exact J_100 _ _ hw
        refine aw_if_eq (pc := 65) (tgt := 95) C dX3_mayBePaired_65 (by decide) (fun hc9 => ?_) (fun hc9 => ?_)
        · have hw := hw.1 hc9
          refine aw_sub [] trivial ?_
          exact J_95  _ hw
        · have hw := hw.2 hc9
          refine aw_aload_n (pc := 68) C dX3_mayBePaired_68 rfl rfl ?_
          obtain ⟨hp9, b69, hb9, hw⟩ := hw
          refine aw_getR (pc := 69) C (ci := 3) (k := 5) ci3 (by decide) tw105 dX3_mayBePaired_69 rfl hp9 hb9 ?_
          refine aw_iconst (pc := 72) C dX3_mayBePaired_72 (i := (0 : Int)) (by decide) ?_
          obtain ⟨hp9, hw⟩ := hw
          refine aw_callV (pc := 73) (as := [vI (0 : Int)]) C ci4 (fun As hA => met_X4_text G l As b69 (0 : Int) _ _ hA hw) tw302 tw266 tw267 tw2 tw268 ⟨rfl, rfl⟩ ⟨rfl, by decide, by decide, pd_X4_text⟩ ⟨Nat.le_of_ble_eq_true rfl, Nat.le_of_ble_eq_true rfl⟩ ⟨Nat.zero_le _, Nat.zero_le _⟩ (Nat.le_of_ble_eq_true rfl) dX3_mayBePaired_73 rfl hp9 (fun v9 h73 hq9 => ?_)
          obtain ⟨r73, rfl, hw⟩ := hq9
          refine aw_iload_n (pc := 76) C dX3_mayBePaired_76 rfl rfl ?_
          obtain ⟨hp9, hw⟩ := hw
          refine aw_callV (pc := 77) (as := [vI a1]) C ci5 (fun As hA => met_X5_rowOf G l As r73 a1 _ _ hA hw) tw334 tw335 tw336 tw3 tw337 ⟨rfl, rfl⟩ ⟨rfl, by decide, by decide, pd_X5_rowOf⟩ ⟨Nat.le_of_ble_eq_true rfl, Nat.le_of_ble_eq_true rfl⟩ ⟨Nat.zero_le _, Nat.zero_le _⟩ (Nat.le_of_ble_eq_true rfl) dX3_mayBePaired_77 rfl hp9 (fun v9 h77 hq9 => ?_)
          obtain ⟨r77, rfl, hw⟩ := hq9
          refine aw_aload_n (pc := 80) C dX3_mayBePaired_80 rfl rfl ?_
          obtain ⟨hp9, b81, hb9, hw⟩ := hw
          refine aw_getR (pc := 81) C (ci := 3) (k := 5) ci3 (by decide) tw105 dX3_mayBePaired_81 rfl hp9 hb9 ?_
          refine aw_iconst (pc := 84) C dX3_mayBePaired_84 (i := (1 : Int)) (by decide) ?_
          obtain ⟨hp9, hw⟩ := hw
          refine aw_callV (pc := 85) (as := [vI (1 : Int)]) C ci4 (fun As hA => met_X4_text G l As b81 (1 : Int) _ _ hA hw) tw302 tw266 tw267 tw2 tw268 ⟨rfl, rfl⟩ ⟨rfl, by decide, by decide, pd_X4_text⟩ ⟨Nat.le_of_ble_eq_true rfl, Nat.le_of_ble_eq_true rfl⟩ ⟨Nat.zero_le _, Nat.zero_le _⟩ (Nat.le_of_ble_eq_true rfl) dX3_mayBePaired_85 rfl hp9 (fun v9 h85 hq9 => ?_)
          obtain ⟨r85, rfl, hw⟩ := hq9
          refine aw_iload_n (pc := 88) C dX3_mayBePaired_88 rfl rfl ?_
          obtain ⟨hp9, hw⟩ := hw
          refine aw_callV (pc := 89) (as := [vI a2]) C ci5 (fun As hA => met_X5_rowOf G l As r85 a2 _ _ hA hw) tw334 tw335 tw336 tw3 tw337 ⟨rfl, rfl⟩ ⟨rfl, by decide, by decide, pd_X5_rowOf⟩ ⟨Nat.le_of_ble_eq_true rfl, Nat.le_of_ble_eq_true rfl⟩ ⟨Nat.zero_le _, Nat.zero_le _⟩ (Nat.le_of_ble_eq_true rfl) dX3_mayBePaired_89 rfl hp9 (fun v9 h89 hq9 => ?_)
          obtain ⟨r89, rfl, hw⟩ := hq9
          refine aw_icmp_ne (pc := 92) (tgt := 99) C dX3_mayBePaired_92 (by decide) (fun hc9 => ?_) (fun hc9 => ?_)
          · have hw := hw.1 hc9
            refine aw_iconst (pc := 99) C dX3_mayBePaired_99 (i := (0 : Int)) (by decide) ?_
            refine aw_sub [] trivial ?_
            exact J_100 _ _ hw
          · have hw := hw.2 hc9
            refine aw_sub [] trivial ?_
            exact J_95  _ hw
      refine aw_icmp_ne (pc := 24) (tgt := 56) C dX3_mayBePaired_24 (by decide) (fun hc9 => ?_) (fun hc9 => ?_)
      · have hw := hw.1 hc9
        refine aw_sub [(0, vR a0), (1, vI a1), (2, vI a2)] ⟨rfl, rfl, rfl, trivial⟩ ?_
        exact J_56  _ hw
      · have hw := hw.2 hc9
        refine aw_aload_n (pc := 27) C dX3_mayBePaired_27 rfl rfl ?_
        obtain ⟨hp9, b28, hb9, hw⟩ := hw
        refine aw_getR (pc := 28) C (ci := 3) (k := 5) ci3 (by decide) tw105 dX3_mayBePaired_28 rfl hp9 hb9 ?_
        refine aw_iconst (pc := 31) C dX3_mayBePaired_31 (i := (0 : Int)) (by decide) ?_
        obtain ⟨hp9, hw⟩ := hw
        refine aw_callV (pc := 32) (as := [vI (0 : Int)]) C ci4 (fun As hA => met_X4_text G l As b28 (0 : Int) _ _ hA hw) tw302 tw266 tw267 tw2 tw268 ⟨rfl, rfl⟩ ⟨rfl, by decide, by decide, pd_X4_text⟩ ⟨Nat.le_of_ble_eq_true rfl, Nat.le_of_ble_eq_true rfl⟩ ⟨Nat.zero_le _, Nat.zero_le _⟩ (Nat.le_of_ble_eq_true rfl) dX3_mayBePaired_32 rfl hp9 (fun v9 h32 hq9 => ?_)
        obtain ⟨r32, rfl, hw⟩ := hq9
        refine aw_iload_n (pc := 35) C dX3_mayBePaired_35 rfl rfl ?_
        obtain ⟨hp9, hw⟩ := hw
        refine aw_callV (pc := 36) (as := [vI a1]) C ci5 (fun As hA => met_X5_codeOf G l As r32 a1 _ _ hA hw) tw311 tw312 tw313 tw3 tw314 ⟨rfl, rfl⟩ ⟨rfl, by decide, by decide, pd_X5_codeOf⟩ ⟨Nat.le_of_ble_eq_true rfl, Nat.le_of_ble_eq_true rfl⟩ ⟨Nat.zero_le _, Nat.zero_le _⟩ (Nat.le_of_ble_eq_true rfl) dX3_mayBePaired_36 rfl hp9 (fun v9 h36 hq9 => ?_)
        obtain ⟨r36, rfl, hw⟩ := hq9
        refine aw_aload_n (pc := 39) C dX3_mayBePaired_39 rfl rfl ?_
        obtain ⟨hp9, b40, hb9, hw⟩ := hw
        refine aw_getR (pc := 40) C (ci := 3) (k := 5) ci3 (by decide) tw105 dX3_mayBePaired_40 rfl hp9 hb9 ?_
        refine aw_iconst (pc := 43) C dX3_mayBePaired_43 (i := (1 : Int)) (by decide) ?_
        obtain ⟨hp9, hw⟩ := hw
        refine aw_callV (pc := 44) (as := [vI (1 : Int)]) C ci4 (fun As hA => met_X4_text G l As b40 (1 : Int) _ _ hA hw) tw302 tw266 tw267 tw2 tw268 ⟨rfl, rfl⟩ ⟨rfl, by decide, by decide, pd_X4_text⟩ ⟨Nat.le_of_ble_eq_true rfl, Nat.le_of_ble_eq_true rfl⟩ ⟨Nat.zero_le _, Nat.zero_le _⟩ (Nat.le_of_ble_eq_true rfl) dX3_mayBePaired_44 rfl hp9 (fun v9 h44 hq9 => ?_)
        obtain ⟨r44, rfl, hw⟩ := hq9
        refine aw_iload_n (pc := 47) C dX3_mayBePaired_47 rfl rfl ?_
        obtain ⟨hp9, hw⟩ := hw
        refine aw_callV (pc := 48) (as := [vI a2]) C ci5 (fun As hA => met_X5_codeOf G l As r44 a2 _ _ hA hw) tw311 tw312 tw313 tw3 tw314 ⟨rfl, rfl⟩ ⟨rfl, by decide, by decide, pd_X5_codeOf⟩ ⟨Nat.le_of_ble_eq_true rfl, Nat.le_of_ble_eq_true rfl⟩ ⟨Nat.zero_le _, Nat.zero_le _⟩ (Nat.le_of_ble_eq_true rfl) dX3_mayBePaired_48 rfl hp9 (fun v9 h48 hq9 => ?_)
        obtain ⟨r48, rfl, hw⟩ := hq9
        refine aw_icmp_eq (pc := 51) (tgt := 56) C dX3_mayBePaired_51 (by decide) (fun hc9 => ?_) (fun hc9 => ?_)
        · have hw := hw.1 hc9
          refine aw_sub [(0, vR a0), (1, vI a1), (2, vI a2)] ⟨rfl, rfl, rfl, trivial⟩ ?_
          exact J_56  _ hw
        · have hw := hw.2 hc9
          refine aw_iconst (pc := 54) C dX3_mayBePaired_54 (i := (0 : Int)) (by decide) ?_
          obtain ⟨hp9, hw⟩ := hw
          exact aw_zret (pc := 55) C hr dX3_mayBePaired_55 ⟨Nat.le_of_ble_eq_true rfl, Nat.le_of_ble_eq_true rfl⟩ hp9 ⟨_, rfl, hw⟩
    · have hw := hw.2 hc9
      refine aw_sub [] trivial ?_
      exact J_20  _ hw
theorem dX3_pair_0 : decode cX3_pair 0 = .ok (.aload_n 0, 1) := by decide +kernel
theorem dX3_pair_1 : decode cX3_pair 1 = .ok (.getfield 9, 3) := by decide +kernel
theorem dX3_pair_4 : decode cX3_pair 4 = .ok (.iload_n 1, 1) := by decide +kernel
theorem dX3_pair_5 : decode cX3_pair 5 = .ok (.iload_n 2, 1) := by decide +kernel
theorem dX3_pair_6 : decode cX3_pair 6 = .ok (.iastore, 1) := by decide +kernel
theorem dX3_pair_7 : decode cX3_pair 7 = .ok (.aload_n 0, 1) := by decide +kernel
theorem dX3_pair_8 : decode cX3_pair 8 = .ok (.getfield 15, 3) := by decide +kernel
theorem dX3_pair_11 : decode cX3_pair 11 = .ok (.iload_n 2, 1) := by decide +kernel
theorem dX3_pair_12 : decode cX3_pair 12 = .ok (.iload_n 1, 1) := by decide +kernel
theorem dX3_pair_13 : decode cX3_pair 13 = .ok (.iastore, 1) := by decide +kernel
theorem dX3_pair_14 : decode cX3_pair 14 = .ok (.aload_n 0, 1) := by decide +kernel
theorem dX3_pair_15 : decode cX3_pair 15 = .ok (.getfield 18, 3) := by decide +kernel
theorem dX3_pair_18 : decode cX3_pair 18 = .ok (.iload_n 1, 1) := by decide +kernel
theorem dX3_pair_19 : decode cX3_pair 19 = .ok (.iload_n 3, 1) := by decide +kernel
theorem dX3_pair_20 : decode cX3_pair 20 = .ok (.iastore, 1) := by decide +kernel
theorem dX3_pair_21 : decode cX3_pair 21 = .ok (.aload_n 0, 1) := by decide +kernel
theorem dX3_pair_22 : decode cX3_pair 22 = .ok (.getfield 21, 3) := by decide +kernel
theorem dX3_pair_25 : decode cX3_pair 25 = .ok (.iload_n 2, 1) := by decide +kernel
theorem dX3_pair_26 : decode cX3_pair 26 = .ok (.iload_n 3, 1) := by decide +kernel
theorem dX3_pair_27 : decode cX3_pair 27 = .ok (.iastore, 1) := by decide +kernel
theorem dX3_pair_28 : decode cX3_pair 28 = .ok (.aload_n 0, 1) := by decide +kernel
theorem dX3_pair_29 : decode cX3_pair 29 = .ok (.getfield 24, 3) := by decide +kernel
theorem dX3_pair_32 : decode cX3_pair 32 = .ok (.iload_n 3, 1) := by decide +kernel
theorem dX3_pair_33 : decode cX3_pair 33 = .ok (.dup2, 1) := by decide +kernel
theorem dX3_pair_34 : decode cX3_pair 34 = .ok (.iaload, 1) := by decide +kernel
theorem dX3_pair_35 : decode cX3_pair 35 = .ok (.iconst 1, 1) := by decide +kernel
theorem dX3_pair_36 : decode cX3_pair 36 = .ok (.iadd, 1) := by decide +kernel
theorem dX3_pair_37 : decode cX3_pair 37 = .ok (.iastore, 1) := by decide +kernel
theorem dX3_pair_38 : decode cX3_pair 38 = .ok (.aload_n 0, 1) := by decide +kernel
theorem dX3_pair_39 : decode cX3_pair 39 = .ok (.getfield 24, 3) := by decide +kernel
theorem dX3_pair_42 : decode cX3_pair 42 = .ok (.iconst 4, 1) := by decide +kernel
theorem dX3_pair_43 : decode cX3_pair 43 = .ok (.dup2, 1) := by decide +kernel
theorem dX3_pair_44 : decode cX3_pair 44 = .ok (.iaload, 1) := by decide +kernel
theorem dX3_pair_45 : decode cX3_pair 45 = .ok (.iconst 1, 1) := by decide +kernel
theorem dX3_pair_46 : decode cX3_pair 46 = .ok (.isub, 1) := by decide +kernel
theorem dX3_pair_47 : decode cX3_pair 47 = .ok (.iastore, 1) := by decide +kernel
theorem dX3_pair_48 : decode cX3_pair 48 = .ok (.aload_n 0, 1) := by decide +kernel
theorem dX3_pair_49 : decode cX3_pair 49 = .ok (.getfield 24, 3) := by decide +kernel
theorem dX3_pair_52 : decode cX3_pair 52 = .ok (.iconst 5, 1) := by decide +kernel
theorem dX3_pair_53 : decode cX3_pair 53 = .ok (.dup2, 1) := by decide +kernel
theorem dX3_pair_54 : decode cX3_pair 54 = .ok (.iaload, 1) := by decide +kernel
theorem dX3_pair_55 : decode cX3_pair 55 = .ok (.iconst 1, 1) := by decide +kernel
theorem dX3_pair_56 : decode cX3_pair 56 = .ok (.isub, 1) := by decide +kernel
theorem dX3_pair_57 : decode cX3_pair 57 = .ok (.iastore, 1) := by decide +kernel
theorem dX3_pair_58 : decode cX3_pair 58 = .ok (.return_, 1) := by decide +kernel
theorem pd_X3_pair : (parseMethodDescriptor yX3_pair.desc).map (fun d => d.parameters.length) = some 3 := by decide +kernel
def w_X3_pair (zz : Nat → Nat) (a0 : Nat) (a1 : Int) (a2 : Int) (a3 : Int) (h : AH) (Q : AH → Prop) : Prop := okA h a0 3 ∧ ∃ b1 : Nat, hfR h a0 0 = some b1 ∧ okW h b1 a1 ∧ ∀ h6 : AH, h6 = saI h b1 (u1 (haI h b1) a1 a2) → okA h6 a0 3 ∧ ∃ b8 : Nat, hfR h6 a0 1 = some b8 ∧ okW h6 b8 a2 ∧ ∀ h13 : AH, h13 = saI h6 b8 (u1 (haI h6 b8) a2 a1) → okA h13 a0 3 ∧ ∃ b15 : Nat, hfR h13 a0 2 = some b15 ∧ okW h13 b15 a1 ∧ ∀ h20 : AH, h20 = saI h13 b15 (u1 (haI h13 b15) a1 a3) → okA h20 a0 3 ∧ ∃ b22 : Nat, hfR h20 a0 3 = some b22 ∧ okW h20 b22 a2 ∧ ∀ h27 : AH, h27 = saI h20 b22 (u1 (haI h20 b22) a2 a3) → okA h27 a0 3 ∧ ∃ b29 : Nat, hfR h27 a0 4 = some b29 ∧ okI h27 b29 a3 ∧ inR ((haI h27 b29 a3) + (1 : Int)) ∧ okW h27 b29 a3 ∧ ∀ h37 : AH, h37 = saI h27 b29 (u1 (haI h27 b29) a3 ((haI h27 b29 a3) + (1 : Int))) → okA h37 a0 3 ∧ ∃ b39 : Nat, hfR h37 a0 4 = some b39 ∧ okI h37 b39 (4 : Int) ∧ inR ((haI h37 b39 (4 : Int)) - (1 : Int)) ∧ okW h37 b39 (4 : Int) ∧ ∀ h47 : AH, h47 = saI h37 b39 (u1 (haI h37 b39) (4 : Int) ((haI h37 b39 (4 : Int)) - (1 : Int))) → okA h47 a0 3 ∧ ∃ b49 : Nat, hfR h47 a0 4 = some b49 ∧ okI h47 b49 (5 : Int) ∧ inR ((haI h47 b49 (5 : Int)) - (1 : Int)) ∧ okW h47 b49 (5 : Int) ∧ ∀ h57 : AH, h57 = saI h47 b49 (u1 (haI h47 b49) (5 : Int) ((haI h47 b49 (5 : Int)) - (1 : Int))) → Q h57
set_option maxRecDepth 100000 in
set_option maxHeartbeats 4000000 in
theorem met_X3_pair (G : GG) (l : Launch) : ∀ (As : List Value) (a0 : Nat) (a1 : Int) (a2 : Int) (a3 : Int) (h : AH) (Q : AH → Prop), As.map ab = List.map some ([vR a0, vI a1, vI a2, vI a3] : List AV) → w_X3_pair G.2.2 a0 a1 a2 a3 h Q → Met l yX3_pair (.code yX3_pair cX3_pair 4 none :: xTb) ({ frames := 0, cells := 0, slots := 0, locals := 0 } : Room) (PcA G As h) (QG G (oV Q)) 0 0 (frA G) := by
  intro As a0 a1 a2 a3 h Q hA hw
  refine met_of hA (by decide) (Nat.le_of_ble_eq_true rfl) (fun p e s m args below meth c C hml hr hnm => ?_)
  unfold w_X3_pair at hw
  refine aw_aload_n (pc := 0) C dX3_pair_0 rfl rfl ?_
  obtain ⟨hp9, b1, hb9, hw⟩ := hw
  refine aw_getR (pc := 1) C (ci := 3) (k := 0) ci3 (by decide) tw92 dX3_pair_1 rfl hp9 hb9 ?_
  refine aw_iload_n (pc := 4) C dX3_pair_4 rfl rfl ?_
  refine aw_iload_n (pc := 5) C dX3_pair_5 rfl rfl ?_
  obtain ⟨⟨k9, hp9⟩, hw⟩ := hw
  refine aw_iast (pc := 6) C dX3_pair_6 hp9 (aw_nmH (fun h6 e9 => ?_))
  have hw := hw h6 e9
  refine aw_aload_n (pc := 7) C dX3_pair_7 rfl rfl ?_
  obtain ⟨hp9, b8, hb9, hw⟩ := hw
  refine aw_getR (pc := 8) C (ci := 3) (k := 1) ci3 (by decide) tw95 dX3_pair_8 rfl hp9 hb9 ?_
  refine aw_iload_n (pc := 11) C dX3_pair_11 rfl rfl ?_
  refine aw_iload_n (pc := 12) C dX3_pair_12 rfl rfl ?_
  obtain ⟨⟨k9, hp9⟩, hw⟩ := hw
  refine aw_iast (pc := 13) C dX3_pair_13 hp9 (aw_nmH (fun h13 e9 => ?_))
  have hw := hw h13 e9
  refine aw_aload_n (pc := 14) C dX3_pair_14 rfl rfl ?_
  obtain ⟨hp9, b15, hb9, hw⟩ := hw
  refine aw_getR (pc := 15) C (ci := 3) (k := 2) ci3 (by decide) tw97 dX3_pair_15 rfl hp9 hb9 ?_
  refine aw_iload_n (pc := 18) C dX3_pair_18 rfl rfl ?_
  refine aw_iload_n (pc := 19) C dX3_pair_19 rfl rfl ?_
  obtain ⟨⟨k9, hp9⟩, hw⟩ := hw
  refine aw_iast (pc := 20) C dX3_pair_20 hp9 (aw_nmH (fun h20 e9 => ?_))
  have hw := hw h20 e9
  refine aw_aload_n (pc := 21) C dX3_pair_21 rfl rfl ?_
  obtain ⟨hp9, b22, hb9, hw⟩ := hw
  refine aw_getR (pc := 22) C (ci := 3) (k := 3) ci3 (by decide) tw99 dX3_pair_22 rfl hp9 hb9 ?_
  refine aw_iload_n (pc := 25) C dX3_pair_25 rfl rfl ?_
  refine aw_iload_n (pc := 26) C dX3_pair_26 rfl rfl ?_
  obtain ⟨⟨k9, hp9⟩, hw⟩ := hw
  refine aw_iast (pc := 27) C dX3_pair_27 hp9 (aw_nmH (fun h27 e9 => ?_))
  have hw := hw h27 e9
  refine aw_aload_n (pc := 28) C dX3_pair_28 rfl rfl ?_
  obtain ⟨hp9, b29, hb9, hw⟩ := hw
  refine aw_getR (pc := 29) C (ci := 3) (k := 4) ci3 (by decide) tw101 dX3_pair_29 rfl hp9 hb9 ?_
  refine aw_iload_n (pc := 32) C dX3_pair_32 rfl rfl ?_
  refine aw_dup2 (pc := 33) C dX3_pair_33 rfl rfl ?_
  obtain ⟨⟨k9, hp9⟩, hw⟩ := hw
  refine aw_iald (pc := 34) C dX3_pair_34 hp9 ?_
  refine aw_iconst (pc := 35) C dX3_pair_35 (i := (1 : Int)) (by decide) ?_
  obtain ⟨hp9, hw⟩ := hw
  refine aw_iadd (pc := 36) C dX3_pair_36 hp9 ?_
  obtain ⟨⟨k9, hp9⟩, hw⟩ := hw
  refine aw_iast (pc := 37) C dX3_pair_37 hp9 (aw_nmH (fun h37 e9 => ?_))
  have hw := hw h37 e9
  refine aw_aload_n (pc := 38) C dX3_pair_38 rfl rfl ?_
  obtain ⟨hp9, b39, hb9, hw⟩ := hw
  refine aw_getR (pc := 39) C (ci := 3) (k := 4) ci3 (by decide) tw101 dX3_pair_39 rfl hp9 hb9 ?_
  refine aw_iconst (pc := 42) C dX3_pair_42 (i := (4 : Int)) (by decide) ?_
  refine aw_dup2 (pc := 43) C dX3_pair_43 rfl rfl ?_
  obtain ⟨⟨k9, hp9⟩, hw⟩ := hw
  refine aw_iald (pc := 44) C dX3_pair_44 hp9 ?_
  refine aw_iconst (pc := 45) C dX3_pair_45 (i := (1 : Int)) (by decide) ?_
  obtain ⟨hp9, hw⟩ := hw
  refine aw_isub (pc := 46) C dX3_pair_46 hp9 ?_
  obtain ⟨⟨k9, hp9⟩, hw⟩ := hw
  refine aw_iast (pc := 47) C dX3_pair_47 hp9 (aw_nmH (fun h47 e9 => ?_))
  have hw := hw h47 e9
  refine aw_aload_n (pc := 48) C dX3_pair_48 rfl rfl ?_
  obtain ⟨hp9, b49, hb9, hw⟩ := hw
  refine aw_getR (pc := 49) C (ci := 3) (k := 4) ci3 (by decide) tw101 dX3_pair_49 rfl hp9 hb9 ?_
  refine aw_iconst (pc := 52) C dX3_pair_52 (i := (5 : Int)) (by decide) ?_
  refine aw_dup2 (pc := 53) C dX3_pair_53 rfl rfl ?_
  obtain ⟨⟨k9, hp9⟩, hw⟩ := hw
  refine aw_iald (pc := 54) C dX3_pair_54 hp9 ?_
  refine aw_iconst (pc := 55) C dX3_pair_55 (i := (1 : Int)) (by decide) ?_
  obtain ⟨hp9, hw⟩ := hw
  refine aw_isub (pc := 56) C dX3_pair_56 hp9 ?_
  obtain ⟨⟨k9, hp9⟩, hw⟩ := hw
  refine aw_iast (pc := 57) C dX3_pair_57 hp9 (aw_nmH (fun h57 e9 => ?_))
  have hw := hw h57 e9
  exact aw_vret (pc := 58) C hr dX3_pair_58 ⟨Nat.le_of_ble_eq_true rfl, Nat.le_of_ble_eq_true rfl⟩ ⟨rfl, hw⟩
theorem dX3_pairNearest_0 : decode cX3_pairNearest 0 = .ok (.iconst (-1), 1) := by decide +kernel
theorem dX3_pairNearest_1 : decode cX3_pairNearest 1 = .ok (.istore_n 3, 1) := by decide +kernel
theorem dX3_pairNearest_2 : decode cX3_pairNearest 2 = .ok (.iconst (-1), 1) := by decide +kernel
theorem dX3_pairNearest_3 : decode cX3_pairNearest 3 = .ok (.istore 4, 2) := by decide +kernel
theorem dX3_pairNearest_5 : decode cX3_pairNearest 5 = .ok (.iload_n 2, 1) := by decide +kernel
theorem dX3_pairNearest_6 : decode cX3_pairNearest 6 = .ok (.iconst 1, 1) := by decide +kernel
theorem dX3_pairNearest_7 : decode cX3_pairNearest 7 = .ok (.iadd, 1) := by decide +kernel
theorem dX3_pairNearest_8 : decode cX3_pairNearest 8 = .ok (.istore 5, 2) := by decide +kernel
theorem dX3_pairNearest_10 : decode cX3_pairNearest 10 = .ok (.iconst 0, 1) := by decide +kernel
theorem dX3_pairNearest_11 : decode cX3_pairNearest 11 = .ok (.istore 6, 2) := by decide +kernel
theorem dX3_pairNearest_13 : decode cX3_pairNearest 13 = .ok (.iload 6, 2) := by decide +kernel
theorem dX3_pairNearest_15 : decode cX3_pairNearest 15 = .ok (.aload_n 0, 1) := by decide +kernel
theorem dX3_pairNearest_16 : decode cX3_pairNearest 16 = .ok (.getfield 30, 3) := by decide +kernel
theorem dX3_pairNearest_19 : decode cX3_pairNearest 19 = .ok (.iconst 0, 1) := by decide +kernel
theorem dX3_pairNearest_20 : decode cX3_pairNearest 20 = .ok (.invokevirtual 49, 3) := by decide +kernel
theorem dX3_pairNearest_23 : decode cX3_pairNearest 23 = .ok (.getfield 73, 3) := by decide +kernel
theorem dX3_pairNearest_26 : decode cX3_pairNearest 26 = .ok (.if_icmp .ge 76, 3) := by decide +kernel
theorem dX3_pairNearest_29 : decode cX3_pairNearest 29 = .ok (.iconst 0, 1) := by decide +kernel
theorem dX3_pairNearest_30 : decode cX3_pairNearest 30 = .ok (.istore 7, 2) := by decide +kernel
theorem dX3_pairNearest_32 : decode cX3_pairNearest 32 = .ok (.iload 7, 2) := by decide +kernel
theorem dX3_pairNearest_34 : decode cX3_pairNearest 34 = .ok (.aload_n 0, 1) := by decide +kernel
theorem dX3_pairNearest_35 : decode cX3_pairNearest 35 = .ok (.getfield 30, 3) := by decide +kernel
theorem dX3_pairNearest_38 : decode cX3_pairNearest 38 = .ok (.iconst 1, 1) := by decide +kernel
theorem dX3_pairNearest_39 : decode cX3_pairNearest 39 = .ok (.invokevirtual 49, 3) := by decide +kernel
theorem dX3_pairNearest_42 : decode cX3_pairNearest 42 = .ok (.getfield 73, 3) := by decide +kernel
theorem dX3_pairNearest_45 : decode cX3_pairNearest 45 = .ok (.if_icmp .ge 51, 3) := by decide +kernel
theorem dX3_pairNearest_48 : decode cX3_pairNearest 48 = .ok (.aload_n 0, 1) := by decide +kernel
theorem dX3_pairNearest_49 : decode cX3_pairNearest 49 = .ok (.iload 6, 2) := by decide +kernel
theorem dX3_pairNearest_51 : decode cX3_pairNearest 51 = .ok (.iload 7, 2) := by decide +kernel
theorem dX3_pairNearest_53 : decode cX3_pairNearest 53 = .ok (.iload_n 1, 1) := by decide +kernel
theorem dX3_pairNearest_54 : decode cX3_pairNearest 54 = .ok (.invokevirtual 95, 3) := by decide +kernel
theorem dX3_pairNearest_57 : decode cX3_pairNearest 57 = .ok (.ifCond .eq 33, 3) := by decide +kernel
theorem dX3_pairNearest_60 : decode cX3_pairNearest 60 = .ok (.aload_n 0, 1) := by decide +kernel
theorem dX3_pairNearest_61 : decode cX3_pairNearest 61 = .ok (.iload 6, 2) := by decide +kernel
theorem dX3_pairNearest_63 : decode cX3_pairNearest 63 = .ok (.iload 7, 2) := by decide +kernel
theorem dX3_pairNearest_65 : decode cX3_pairNearest 65 = .ok (.invokevirtual 99, 3) := by decide +kernel
theorem dX3_pairNearest_68 : decode cX3_pairNearest 68 = .ok (.iload 5, 2) := by decide +kernel
theorem dX3_pairNearest_70 : decode cX3_pairNearest 70 = .ok (.if_icmp .ge 20, 3) := by decide +kernel
theorem dX3_pairNearest_73 : decode cX3_pairNearest 73 = .ok (.aload_n 0, 1) := by decide +kernel
theorem dX3_pairNearest_74 : decode cX3_pairNearest 74 = .ok (.iload 6, 2) := by decide +kernel
theorem dX3_pairNearest_76 : decode cX3_pairNearest 76 = .ok (.iload 7, 2) := by decide +kernel
theorem dX3_pairNearest_78 : decode cX3_pairNearest 78 = .ok (.invokevirtual 99, 3) := by decide +kernel
theorem dX3_pairNearest_81 : decode cX3_pairNearest 81 = .ok (.istore 5, 2) := by decide +kernel
theorem dX3_pairNearest_83 : decode cX3_pairNearest 83 = .ok (.iload 6, 2) := by decide +kernel
theorem dX3_pairNearest_85 : decode cX3_pairNearest 85 = .ok (.istore_n 3, 1) := by decide +kernel
theorem dX3_pairNearest_86 : decode cX3_pairNearest 86 = .ok (.iload 7, 2) := by decide +kernel
theorem dX3_pairNearest_88 : decode cX3_pairNearest 88 = .ok (.istore 4, 2) := by decide +kernel
theorem dX3_pairNearest_90 : decode cX3_pairNearest 90 = .ok (.iinc 7 1, 3) := by decide +kernel
theorem dX3_pairNearest_93 : decode cX3_pairNearest 93 = .ok (.goto (-61), 3) := by decide +kernel
theorem dX3_pairNearest_96 : decode cX3_pairNearest 96 = .ok (.iinc 6 1, 3) := by decide +kernel
theorem dX3_pairNearest_99 : decode cX3_pairNearest 99 = .ok (.goto (-86), 3) := by decide +kernel
theorem dX3_pairNearest_102 : decode cX3_pairNearest 102 = .ok (.iload_n 3, 1) := by decide +kernel
theorem dX3_pairNearest_103 : decode cX3_pairNearest 103 = .ok (.iconst (-1), 1) := by decide +kernel
theorem dX3_pairNearest_104 : decode cX3_pairNearest 104 = .ok (.if_icmp .eq 9, 3) := by decide +kernel
theorem dX3_pairNearest_107 : decode cX3_pairNearest 107 = .ok (.iload 4, 2) := by decide +kernel
theorem dX3_pairNearest_109 : decode cX3_pairNearest 109 = .ok (.iconst (-1), 1) := by decide +kernel
theorem dX3_pairNearest_110 : decode cX3_pairNearest 110 = .ok (.if_icmp .ne 5, 3) := by decide +kernel
theorem dX3_pairNearest_113 : decode cX3_pairNearest 113 = .ok (.iconst 0, 1) := by decide +kernel
theorem dX3_pairNearest_114 : decode cX3_pairNearest 114 = .ok (.ireturn, 1) := by decide +kernel
theorem dX3_pairNearest_115 : decode cX3_pairNearest 115 = .ok (.aload_n 0, 1) := by decide +kernel
theorem dX3_pairNearest_116 : decode cX3_pairNearest 116 = .ok (.iload_n 3, 1) := by decide +kernel
theorem dX3_pairNearest_117 : decode cX3_pairNearest 117 = .ok (.iload 4, 2) := by decide +kernel
theorem dX3_pairNearest_119 : decode cX3_pairNearest 119 = .ok (.iload_n 1, 1) := by decide +kernel
theorem dX3_pairNearest_120 : decode cX3_pairNearest 120 = .ok (.invokevirtual 84, 3) := by decide +kernel
theorem dX3_pairNearest_123 : decode cX3_pairNearest 123 = .ok (.iconst 1, 1) := by decide +kernel
theorem dX3_pairNearest_124 : decode cX3_pairNearest 124 = .ok (.ireturn, 1) := by decide +kernel
theorem pd_X3_pairNearest : (parseMethodDescriptor yX3_pairNearest.desc).map (fun d => d.parameters.length) = some 2 := by decide +kernel
def w_X3_pairNearest (zz : Nat → Nat) (a0 : Nat) (a1 : Int) (a2 : Int) (h : AH) (Q : Int → AH → Prop) : Prop := inR (a2 + (1 : Int)) ∧ ∀ x5_8 : Int, x5_8 = (a2 + (1 : Int)) → ∃ I_13 : Nat → Int → Int → Int → Int → AH → Prop, (∃ n, I_13 n (-1 : Int) (-1 : Int) x5_8 (0 : Int) h) ∧ ∀ (n_13 : Nat) (x3_13 : Int) (x4_13 : Int) (x5_13 : Int) (x6_13 : Int) (h_13 : AH), I_13 n_13 x3_13 x4_13 x5_13 x6_13 h_13 → (okA h_13 a0 3 ∧ ∃ b16 : Nat, hfR h_13 a0 5 = some b16 ∧ okA h_13 b16 4 ∧ w_X4_text zz b16 (0 : Int) h_13 (fun (r20 : Nat) (h20 : AH) => okA h20 r20 5 ∧ (((hfI h20 r20 2) ≤ x6_13) → jn (fun  (h_113 : AH) => ((0 : Int) = 0 ∨ (0 : Int) = 1) ∧ Q (0 : Int) h_113) (fun k_113 : AH → Prop => ((x3_13 = (-1 : Int)) → k_113  h20) ∧ ((¬ (x3_13 = (-1 : Int))) → ((¬ x4_13 = (-1 : Int)) → okA h20 a0 3 ∧ w_X3_pair zz a0 x3_13 x4_13 a1 h20 (fun  (h120 : AH) => ((1 : Int) = 0 ∨ (1 : Int) = 1) ∧ Q (1 : Int) h120)) ∧ ((x4_13 = (-1 : Int)) → k_113  h20)))) ∧ ((¬ ((hfI h20 r20 2) ≤ x6_13)) → ∃ I_32 : Nat → Int → Int → Int → Int → AH → Prop, (∃ n, I_32 n x3_13 x4_13 x5_13 (0 : Int) h20) ∧ ∀ (n_32 : Nat) (x3_32 : Int) (x4_32 : Int) (x5_32 : Int) (x7_32 : Int) (h_32 : AH), I_32 n_32 x3_32 x4_32 x5_32 x7_32 h_32 → (okA h_32 a0 3 ∧ ∃ b35 : Nat, hfR h_32 a0 5 = some b35 ∧ okA h_32 b35 4 ∧ w_X4_text zz b35 (1 : Int) h_32 (fun (r39 : Nat) (h39 : AH) => okA h39 r39 5 ∧ (((hfI h39 r39 2) ≤ x7_32) → inR (x6_13 + 1) ∧ ∀ x6_96 : Int, x6_96 = (x6_13 + 1) → ∃ m, m < n_13 ∧ I_13 m x3_32 x4_32 x5_32 x6_96 h39) ∧ ((¬ ((hfI h39 r39 2) ≤ x7_32)) → okA h39 a0 3 ∧ w_X3_mayBePaired zz a0 x6_13 x7_32 a1 h39 (fun (r54 : Int) (h54 : AH) => jn (fun (x3_90 : Int) (x4_90 : Int) (x5_90 : Int) (h_90 : AH) => inR (x7_32 + 1) ∧ ∀ x7_90 : Int, x7_90 = (x7_32 + 1) → ∃ m, m < n_32 ∧ I_32 m x3_90 x4_90 x5_90 x7_90 h_90) (fun k_90 : Int → Int → Int → AH → Prop => ((r54 = 0) → k_90 x3_32 x4_32 x5_32 h54) ∧ ((¬ (r54 = 0)) → okA h54 a0 3 ∧ w_X3_distance zz a0 x6_13 x7_32 h54 (fun (r65 : Int) (h65 : AH) => ((x5_32 ≤ r65) → k_90 x3_32 x4_32 x5_32 h65) ∧ ((¬ (x5_32 ≤ r65)) → okA h65 a0 3 ∧ w_X3_distance zz a0 x6_13 x7_32 h65 (fun (r78 : Int) (h78 : AH) => k_90 x6_13 x7_32 r78 h78))))))))))))
set_option maxRecDepth 100000 in
set_option maxHeartbeats 4000000 in
theorem met_X3_pairNearest (G : GG) (l : Launch) : ∀ (As : List Value) (a0 : Nat) (a1 : Int) (a2 : Int) (h : AH) (Q : Int → AH → Prop), As.map ab = List.map some ([vR a0, vI a1, vI a2] : List AV) → w_X3_pairNearest G.2.2 a0 a1 a2 h Q → Met l yX3_pairNearest (.code yX3_pairNearest cX3_pairNearest 8 (some .boolean) :: xTb) ({ frames := 2, cells := 0, slots := 0, locals := 45 } : Room) (PcA G As h) (QG G (oI Q)) 0 0 (frA G) := by
  intro As a0 a1 a2 h Q hA hw
  refine met_of hA (by decide) (Nat.le_of_ble_eq_true rfl) (fun p e s m args below meth c C hml hr hnm => ?_)
  unfold w_X3_pairNearest at hw
  refine aw_iconst (pc := 0) C dX3_pairNearest_0 (i := (-1 : Int)) (by decide) ?_
  refine aw_istore_n (pc := 1) C dX3_pairNearest_1 rfl (by rw [hml]; decide) ?_
  refine aw_iconst (pc := 2) C dX3_pairNearest_2 (i := (-1 : Int)) (by decide) ?_
  refine aw_istore (pc := 3) C dX3_pairNearest_3 (by rw [hml]; decide) ?_
  refine aw_iload_n (pc := 5) C dX3_pairNearest_5 rfl rfl ?_
  refine aw_iconst (pc := 6) C dX3_pairNearest_6 (i := (1 : Int)) (by decide) ?_
  obtain ⟨hp9, hw⟩ := hw
  refine aw_iadd (pc := 7) C dX3_pairNearest_7 hp9 ?_
  refine aw_nmI (fun x5_8 e9 => ?_)
  have hw := hw x5_8 e9
  refine aw_istore (pc := 8) C dX3_pairNearest_8 (by rw [hml]; decide) ?_
  refine aw_iconst (pc := 10) C dX3_pairNearest_10 (i := (0 : Int)) (by decide) ?_
  refine aw_istore (pc := 11) C dX3_pairNearest_11 (by rw [hml]; decide) ?_
  obtain ⟨I_13, ⟨n9, hi9⟩, hst9⟩ := hw
  have L_13 : ∀ (n_13 : Nat) (x3_13 : Int) (x4_13 : Int) (x5_13 : Int) (x6_13 : Int) (h_13 : AH), I_13 n_13 x3_13 x4_13 x5_13 x6_13 h_13 → AW G p l e ({ frames := 2, cells := 0, slots := 0, locals := 45 } : Room) s m args below meth c 0 0 (MQ below (QG G (oI Q)) args s 0 0 (frA G)) 13 (eOf [(0, vR a0), (1, vI a1), (3, vI x3_13), (4, vI x4_13), (5, vI x5_13), (6, vI x6_13)]) [] h_13 := by
    intro n_13
    induction n_13 using Nat.strongRecOn with
    | _ n_13 ih_13 =>
    intro x3_13 x4_13 x5_13 x6_13 h_13 hi9
    have hw := hst9 n_13 x3_13 x4_13 x5_13 x6_13 h_13 hi9
    refine aw_iload (pc := 13) C dX3_pairNearest_13 rfl ?_
    refine aw_aload_n (pc := 15) C dX3_pairNearest_15 rfl rfl ?_
    obtain ⟨hp9, b16, hb9, hw⟩ := hw
    refine aw_getR (pc := 16) C (ci := 3) (k := 5) ci3 (by decide) tw105 dX3_pairNearest_16 rfl hp9 hb9 ?_
    refine aw_iconst (pc := 19) C dX3_pairNearest_19 (i := (0 : Int)) (by decide) ?_
    obtain ⟨hp9, hw⟩ := hw
    refine aw_callV (pc := 20) (as := [vI (0 : Int)]) C ci4 (fun As hA => met_X4_text G l As b16 (0 : Int) _ _ hA hw) tw302 tw266 tw267 tw2 tw268 ⟨rfl, rfl⟩ ⟨rfl, by decide, by decide, pd_X4_text⟩ ⟨Nat.le_of_ble_eq_true rfl, Nat.le_of_ble_eq_true rfl⟩ ⟨Nat.zero_le _, Nat.zero_le _⟩ (Nat.le_of_ble_eq_true rfl) dX3_pairNearest_20 rfl hp9 (fun v9 h20 hq9 => ?_)
    obtain ⟨r20, rfl, hw⟩ := hq9
    obtain ⟨hp9, hw⟩ := hw
    refine aw_getI (pc := 23) C (ci := 5) (k := 2) ci5 (by decide) tw51 dX3_pairNearest_23 rfl hp9 ?_
    refine aw_icmp_ge (pc := 26) (tgt := 102) C dX3_pairNearest_26 (by decide) (fun hc9 => ?_) (fun hc9 => ?_)
    · have hw := hw.1 hc9
      refine aw_iload_n (pc := 102) C dX3_pairNearest_102 rfl rfl ?_
      refine aw_iconst (pc := 103) C dX3_pairNearest_103 (i := (-1 : Int)) (by decide) ?_
      obtain ⟨k_113, hk_113, hw⟩ := jn_out hw
      have J_113 : ∀  (h_113 : AH), k_113  h_113 → AW G p l e ({ frames := 2, cells := 0, slots := 0, locals := 45 } : Room) s m args below meth c 0 0 (MQ below (QG G (oI Q)) args s 0 0 (frA G)) 113 (eOf []) [] h_113 := by
        intro  h_113 hw
        rw [hk_113] at hw
        refine aw_iconst (pc := 113) C dX3_pairNearest_113 (i := (0 : Int)) (by decide) ?_
        obtain ⟨hp9, hw⟩ := hw
        exact aw_zret (pc := 114) C hr dX3_pairNearest_114 ⟨Nat.le_of_ble_eq_true rfl, Nat.le_of_ble_eq_true rfl⟩ hp9 ⟨_, rfl, hw⟩
      refine aw_icmp_eq (pc := 104) (tgt := 113) C dX3_pairNearest_104 (by decide) (fun hc9 => ?_) (fun hc9 => ?_)
      · have hw := hw.1 hc9
        refine aw_sub [] trivial ?_
        exact J_113  _ hw
      · have hw := hw.2 hc9
        refine aw_iload (pc := 107) C dX3_pairNearest_107 rfl ?_
        refine aw_iconst (pc := 109) C dX3_pairNearest_109 (i := (-1 : Int)) (by decide) ?_
        refine aw_icmp_ne (pc := 110) (tgt := 115) C dX3_pairNearest_110 (by decide) (fun hc9 => ?_) (fun hc9 => ?_)
        · have hw := hw.1 hc9
          refine aw_aload_n (pc := 115) C dX3_pairNearest_115 rfl rfl ?_
          refine aw_iload_n (pc := 116) C dX3_pairNearest_116 rfl rfl ?_
          refine aw_iload (pc := 117) C dX3_pairNearest_117 rfl ?_
          refine aw_iload_n (pc := 119) C dX3_pairNearest_119 rfl rfl ?_
          obtain ⟨hp9, hw⟩ := hw
          refine aw_callV (pc := 120) (as := [vI x3_13, vI x4_13, vI a1]) C ci3 (fun As hA => met_X3_pair G l As a0 x3_13 x4_13 a1 _ _ hA hw) tw322 tw324 (tbp 6 (n := 7) (by decide +kernel)) tw7 tw325 ⟨rfl, rfl⟩ ⟨rfl, by decide, by decide, pd_X3_pair⟩ ⟨Nat.le_of_ble_eq_true rfl, Nat.le_of_ble_eq_true rfl⟩ ⟨Nat.zero_le _, Nat.zero_le _⟩ (Nat.le_of_ble_eq_true rfl) dX3_pairNearest_120 rfl hp9 (fun v9 h120 hq9 => ?_)
          obtain ⟨rfl, hw⟩ := hq9
          refine aw_iconst (pc := 123) C dX3_pairNearest_123 (i := (1 : Int)) (by decide) ?_
          obtain ⟨hp9, hw⟩ := hw
          exact aw_zret (pc := 124) C hr dX3_pairNearest_124 ⟨Nat.le_of_ble_eq_true rfl, Nat.le_of_ble_eq_true rfl⟩ hp9 ⟨_, rfl, hw⟩
        · have hw := hw.2 hc9
          refine aw_sub [] trivial ?_
          exact J_113  _ hw
    · have hw := hw.2 hc9
      refine aw_iconst (pc := 29) C dX3_pairNearest_29 (i := (0 : Int)) (by decide) ?_
      refine aw_istore (pc := 30) C dX3_pairNearest_30 (by rw [hml]; decide) ?_
      obtain ⟨I_32, ⟨n9, hi9⟩, hst9⟩ := hw
      have L_32 : ∀ (n_32 : Nat) (x3_32 : Int) (x4_32 : Int) (x5_32 : Int) (x7_32 : Int) (h_32 : AH), I_32 n_32 x3_32 x4_32 x5_32 x7_32 h_32 → AW G p l e ({ frames := 2, cells := 0, slots := 0, locals := 45 } : Room) s m args below meth c 0 0 (MQ below (QG G (oI Q)) args s 0 0 (frA G)) 32 (eOf [(0, vR a0), (1, vI a1), (3, vI x3_32), (4, vI x4_32), (5, vI x5_32), (6, vI x6_13), (7, vI x7_32)]) [] h_32 := by
        intro n_32
        induction n_32 using Nat.strongRecOn with
        | _ n_32 ih_32 =>
        intro x3_32 x4_32 x5_32 x7_32 h_32 hi9
        have hw := hst9 n_32 x3_32 x4_32 x5_32 x7_32 h_32 hi9
        refine aw_iload (pc := 32) C dX3_pairNearest_32 rfl ?_
        refine aw_aload_n (pc := 34) C dX3_pairNearest_34 rfl rfl ?_
        obtain ⟨hp9, b35, hb9, hw⟩ := hw
        refine aw_getR (pc := 35) C (ci := 3) (k := 5) ci3 (by decide) tw105 dX3_pairNearest_35 rfl hp9 hb9 ?_
        refine aw_iconst (pc := 38) C dX3_pairNearest_38 (i := (1 : Int)) (by decide) ?_
        obtain ⟨hp9, hw⟩ := hw
        refine aw_callV (pc := 39) (as := [vI (1 : Int)]) C ci4 (fun As hA => met_X4_text G l As b35 (1 : Int) _ _ hA hw) tw302 tw266 tw267 tw2 tw268 ⟨rfl, rfl⟩ ⟨rfl, by decide, by decide, pd_X4_text⟩ ⟨Nat.le_of_ble_eq_true rfl, Nat.le_of_ble_eq_true rfl⟩ ⟨Nat.zero_le _, Nat.zero_le _⟩ (Nat.le_of_ble_eq_true rfl) dX3_pairNearest_39 rfl hp9 (fun v9 h39 hq9 => ?_)
        obtain ⟨r39, rfl, hw⟩ := hq9
        obtain ⟨hp9, hw⟩ := hw
        refine aw_getI (pc := 42) C (ci := 5) (k := 2) ci5 (by decide) tw51 dX3_pairNearest_42 rfl hp9 ?_
        refine aw_icmp_ge (pc := 45) (tgt := 96) C dX3_pairNearest_45 (by decide) (fun hc9 => ?_) (fun hc9 => ?_)
        · have hw := hw.1 hc9
          obtain ⟨hp9, hw⟩ := hw
          refine aw_iincN (pc := 96) C dX3_pairNearest_96 (k := 1) (by decide) rfl (by rw [hml]; decide) hp9 (fun x6_96 e9 => ?_)
          have hw := hw x6_96 e9
          refine aw_goto (pc := 99) (tgt := 13) C dX3_pairNearest_99 (by decide) ?_
          obtain ⟨m9, hm9, hw⟩ := hw
          refine aw_sub [(0, vR a0), (1, vI a1), (3, vI x3_32), (4, vI x4_32), (5, vI x5_32), (6, vI x6_96)] ⟨rfl, rfl, rfl, rfl, rfl, rfl, trivial⟩ ?_
          exact ih_13 m9 hm9 _ _ _ _ _ hw
        · have hw := hw.2 hc9
          refine aw_aload_n (pc := 48) C dX3_pairNearest_48 rfl rfl ?_
          refine aw_iload (pc := 49) C dX3_pairNearest_49 rfl ?_
          refine aw_iload (pc := 51) C dX3_pairNearest_51 rfl ?_
          refine aw_iload_n (pc := 53) C dX3_pairNearest_53 rfl rfl ?_
          obtain ⟨hp9, hw⟩ := hw
          refine aw_callV (pc := 54) (as := [vI x6_13, vI x7_32, vI a1]) C ci3 (fun As hA => met_X3_mayBePaired G l As a0 x6_13 x7_32 a1 _ _ hA hw) tw330 tw332 (tbp 8 (n := 7) (by decide +kernel)) tw7 tw333 ⟨rfl, rfl⟩ ⟨rfl, by decide, by decide, pd_X3_mayBePaired⟩ ⟨Nat.le_of_ble_eq_true rfl, Nat.le_of_ble_eq_true rfl⟩ ⟨Nat.zero_le _, Nat.zero_le _⟩ (Nat.le_of_ble_eq_true rfl) dX3_pairNearest_54 rfl hp9 (fun v9 h54 hq9 => ?_)
          obtain ⟨r54, rfl, hw⟩ := hq9
          obtain ⟨k_90, hk_90, hw⟩ := jn_out hw
          have J_90 : ∀ (x3_90 : Int) (x4_90 : Int) (x5_90 : Int) (h_90 : AH), k_90 x3_90 x4_90 x5_90 h_90 → AW G p l e ({ frames := 2, cells := 0, slots := 0, locals := 45 } : Room) s m args below meth c 0 0 (MQ below (QG G (oI Q)) args s 0 0 (frA G)) 90 (eOf [(0, vR a0), (1, vI a1), (3, vI x3_90), (4, vI x4_90), (5, vI x5_90), (6, vI x6_13), (7, vI x7_32)]) [] h_90 := by
            intro x3_90 x4_90 x5_90 h_90 hw
            rw [hk_90] at hw
            obtain ⟨hp9, hw⟩ := hw
            refine aw_iincN (pc := 90) C dX3_pairNearest_90 (k := 1) (by decide) rfl (by rw [hml]; decide) hp9 (fun x7_90 e9 => ?_)
            have hw := hw x7_90 e9
            refine aw_goto (pc := 93) (tgt := 32) C dX3_pairNearest_93 (by decide) ?_
            obtain ⟨m9, hm9, hw⟩ := hw
            refine aw_sub [(0, vR a0), (1, vI a1), (3, vI x3_90), (4, vI x4_90), (5, vI x5_90), (6, vI x6_13), (7, vI x7_90)] ⟨rfl, rfl, rfl, rfl, rfl, rfl, rfl, trivial⟩ ?_
            exact ih_32 m9 hm9 _ _ _ _ _ hw
          refine aw_if_eq (pc := 57) (tgt := 90) C dX3_pairNearest_57 (by decide) (fun hc9 => ?_) (fun hc9 => ?_)
          · have hw := hw.1 hc9
            refine aw_sub [(0, vR a0), (1, vI a1), (3, vI x3_32), (4, vI x4_32), (5, vI x5_32), (6, vI x6_13), (7, vI x7_32)] ⟨rfl, rfl, rfl, rfl, rfl, rfl, rfl, trivial⟩ ?_
            exact J_90 _ _ _ _ hw
          · have hw := hw.2 hc9
            refine aw_aload_n (pc := 60) C dX3_pairNearest_60 rfl rfl ?_
            refine aw_iload (pc := 61) C dX3_pairNearest_61 rfl ?_
            refine aw_iload (pc := 63) C dX3_pairNearest_63 rfl ?_
            obtain ⟨hp9, hw⟩ := hw
            refine aw_callV (pc := 65) (as := [vI x6_13, vI x7_32]) C ci3 (fun As hA => met_X3_distance G l As a0 x6_13 x7_32 _ _ hA hw) tw338 tw339 tw340 tw7 tw341 ⟨rfl, rfl⟩ ⟨rfl, by decide, by decide, pd_X3_distance⟩ ⟨Nat.le_of_ble_eq_true rfl, Nat.le_of_ble_eq_true rfl⟩ ⟨Nat.zero_le _, Nat.zero_le _⟩ (Nat.le_of_ble_eq_true rfl) dX3_pairNearest_65 rfl hp9 (fun v9 h65 hq9 => ?_)
            obtain ⟨r65, rfl, hw⟩ := hq9
            refine aw_iload (pc := 68) C dX3_pairNearest_68 rfl ?_
            refine aw_icmp_ge (pc := 70) (tgt := 90) C dX3_pairNearest_70 (by decide) (fun hc9 => ?_) (fun hc9 => ?_)
            · have hw := hw.1 hc9
              refine aw_sub [(0, vR a0), (1, vI a1), (3, vI x3_32), (4, vI x4_32), (5, vI x5_32), (6, vI x6_13), (7, vI x7_32)] ⟨rfl, rfl, rfl, rfl, rfl, rfl, rfl, trivial⟩ ?_
              exact J_90 _ _ _ _ hw
            · have hw := hw.2 hc9
              refine aw_aload_n (pc := 73) C dX3_pairNearest_73 rfl rfl ?_
              refine aw_iload (pc := 74) C dX3_pairNearest_74 rfl ?_
              refine aw_iload (pc := 76) C dX3_pairNearest_76 rfl ?_
              obtain ⟨hp9, hw⟩ := hw
              refine aw_callV (pc := 78) (as := [vI x6_13, vI x7_32]) C ci3 (fun As hA => met_X3_distance G l As a0 x6_13 x7_32 _ _ hA hw) tw338 tw339 tw340 tw7 tw341 ⟨rfl, rfl⟩ ⟨rfl, by decide, by decide, pd_X3_distance⟩ ⟨Nat.le_of_ble_eq_true rfl, Nat.le_of_ble_eq_true rfl⟩ ⟨Nat.zero_le _, Nat.zero_le _⟩ (Nat.le_of_ble_eq_true rfl) dX3_pairNearest_78 rfl hp9 (fun v9 h78 hq9 => ?_)
              obtain ⟨r78, rfl, hw⟩ := hq9
              refine aw_istore (pc := 81) C dX3_pairNearest_81 (by rw [hml]; decide) ?_
              refine aw_iload (pc := 83) C dX3_pairNearest_83 rfl ?_
              refine aw_istore_n (pc := 85) C dX3_pairNearest_85 rfl (by rw [hml]; decide) ?_
              refine aw_iload (pc := 86) C dX3_pairNearest_86 rfl ?_
              refine aw_istore (pc := 88) C dX3_pairNearest_88 (by rw [hml]; decide) ?_
              refine aw_sub [(0, vR a0), (1, vI a1), (3, vI x6_13), (4, vI x7_32), (5, vI r78), (6, vI x6_13), (7, vI x7_32)] ⟨rfl, rfl, rfl, rfl, rfl, rfl, rfl, trivial⟩ ?_
              exact J_90 _ _ _ _ hw
      refine aw_sub [(0, vR a0), (1, vI a1), (3, vI x3_13), (4, vI x4_13), (5, vI x5_13), (6, vI x6_13), (7, vI (0 : Int))] ⟨rfl, rfl, rfl, rfl, rfl, rfl, rfl, trivial⟩ ?_
      exact L_32 n9 _ _ _ _ _ hi9
  refine aw_sub [(0, vR a0), (1, vI a1), (3, vI (-1 : Int)), (4, vI (-1 : Int)), (5, vI x5_8), (6, vI (0 : Int))] ⟨rfl, rfl, rfl, rfl, rfl, rfl, trivial⟩ ?_
  exact L_13 n9 _ _ _ _ _ hi9
theorem dX7_size_0 : decode cX7_size 0 = .ok (.iload_n 0, 1) := by decide +kernel
theorem dX7_size_1 : decode cX7_size 1 = .ok (.ifCond .ge 8, 3) := by decide +kernel
theorem dX7_size_4 : decode cX7_size 4 = .ok (.iload_n 0, 1) := by decide +kernel
theorem dX7_size_5 : decode cX7_size 5 = .ok (.ineg, 1) := by decide +kernel
theorem dX7_size_6 : decode cX7_size 6 = .ok (.goto 4, 3) := by decide +kernel
theorem dX7_size_9 : decode cX7_size 9 = .ok (.iload_n 0, 1) := by decide +kernel
theorem dX7_size_10 : decode cX7_size 10 = .ok (.ireturn, 1) := by decide +kernel
theorem pd_X7_size : (parseMethodDescriptor yX7_size.desc).map (fun d => d.parameters.length) = some 1 := by decide +kernel
def w_X7_size (zz : Nat → Nat) (a0 : Int) (h : AH) (Q : Int → AH → Prop) : Prop := jn (fun (t0_10 : Int) (h_10 : AH) => Q t0_10 h_10) (fun k_10 : Int → AH → Prop => ((0 ≤ a0) → k_10 a0 h) ∧ ((¬ (0 ≤ a0)) → inR (-a0) ∧ k_10 (-a0) h))
set_option maxRecDepth 100000 in
set_option maxHeartbeats 4000000 in
theorem met_X7_size (G : GG) (l : Launch) : ∀ (As : List Value) (a0 : Int) (h : AH) (Q : Int → AH → Prop), As.map ab = List.map some ([vI a0] : List AV) → w_X7_size G.2.2 a0 h Q → Met l yX7_size (.code yX7_size cX7_size 1 (some .int) :: xTb) ({ frames := 0, cells := 0, slots := 0, locals := 0 } : Room) (PcA G As h) (QG G (oI Q)) 0 0 (frA G) := by
  intro As a0 h Q hA hw
  refine met_of hA (by decide) (Nat.le_of_ble_eq_true rfl) (fun p e s m args below meth c C hml hr hnm => ?_)
  unfold w_X7_size at hw
  refine aw_iload_n (pc := 0) C dX7_size_0 rfl rfl ?_
  obtain ⟨k_10, hk_10, hw⟩ := jn_out hw
  have J_10 : ∀ (t0_10 : Int) (h_10 : AH), k_10 t0_10 h_10 → AW G p l e ({ frames := 0, cells := 0, slots := 0, locals := 0 } : Room) s m args below meth c 0 0 (MQ below (QG G (oI Q)) args s 0 0 (frA G)) 10 (eOf []) [vI t0_10] h_10 := by
    intro t0_10 h_10 hw
    rw [hk_10] at hw
    exact aw_iret (pc := 10) C hr dX7_size_10 ⟨Nat.le_of_ble_eq_true rfl, Nat.le_of_ble_eq_true rfl⟩ ⟨_, rfl, hw⟩
  refine aw_if_ge (pc := 1) (tgt := 9) C dX7_size_1 (by decide) (fun hc9 => ?_) (fun hc9 => ?_)
  · have hw := hw.1 hc9
    refine aw_iload_n (pc := 9) C dX7_size_9 rfl rfl ?_
    refine aw_sub [] trivial ?_
    exact J_10 _ _ hw
  · have hw := hw.2 hc9
    refine aw_iload_n (pc := 4) C dX7_size_4 rfl rfl ?_
    obtain ⟨hp9, hw⟩ := hw
    refine aw_ineg (pc := 5) C dX7_size_5 hp9 ?_
    refine aw_goto (pc := 6) (tgt := 10) C dX7_size_6 (by decide) ?_
    refine aw_sub [] trivial ?_
    exact J_10 _ _ hw
theorem dX7_of_0 : decode cX7_of 0 = .ok (.aload_n 0, 1) := by decide +kernel
theorem dX7_of_1 : decode cX7_of 1 = .ok (.getfield 7, 3) := by decide +kernel
theorem dX7_of_4 : decode cX7_of 4 = .ok (.sipush 160, 3) := by decide +kernel
theorem dX7_of_7 : decode cX7_of 7 = .ok (.iload_n 1, 1) := by decide +kernel
theorem dX7_of_8 : decode cX7_of 8 = .ok (.iadd, 1) := by decide +kernel
theorem dX7_of_9 : decode cX7_of 9 = .ok (.iaload, 1) := by decide +kernel
theorem dX7_of_10 : decode cX7_of 10 = .ok (.ireturn, 1) := by decide +kernel
theorem pd_X7_of : (parseMethodDescriptor yX7_of.desc).map (fun d => d.parameters.length) = some 1 := by decide +kernel
def w_X7_of (zz : Nat → Nat) (a0 : Nat) (a1 : Int) (h : AH) (Q : Int → AH → Prop) : Prop := okA h a0 7 ∧ ∃ b1 : Nat, hfR h a0 1 = some b1 ∧ inR ((160 : Int) + a1) ∧ okI h b1 ((160 : Int) + a1) ∧ Q (haI h b1 ((160 : Int) + a1)) h
set_option maxRecDepth 100000 in
set_option maxHeartbeats 4000000 in
theorem met_X7_of (G : GG) (l : Launch) : ∀ (As : List Value) (a0 : Nat) (a1 : Int) (h : AH) (Q : Int → AH → Prop), As.map ab = List.map some ([vR a0, vI a1] : List AV) → w_X7_of G.2.2 a0 a1 h Q → Met l yX7_of (.code yX7_of cX7_of 2 (some .int) :: xTb) ({ frames := 0, cells := 0, slots := 0, locals := 0 } : Room) (PcA G As h) (QG G (oI Q)) 0 0 (frA G) := by
  intro As a0 a1 h Q hA hw
  refine met_of hA (by decide) (Nat.le_of_ble_eq_true rfl) (fun p e s m args below meth c C hml hr hnm => ?_)
  unfold w_X7_of at hw
  refine aw_aload_n (pc := 0) C dX7_of_0 rfl rfl ?_
  obtain ⟨hp9, b1, hb9, hw⟩ := hw
  refine aw_getR (pc := 1) C (ci := 7) (k := 1) ci7 (by decide) tw793 dX7_of_1 rfl hp9 hb9 ?_
  refine aw_sipush (pc := 4) C dX7_of_4 (i := (160 : Int)) (by decide) ?_
  refine aw_iload_n (pc := 7) C dX7_of_7 rfl rfl ?_
  obtain ⟨hp9, hw⟩ := hw
  refine aw_iadd (pc := 8) C dX7_of_8 hp9 ?_
  obtain ⟨⟨k9, hp9⟩, hw⟩ := hw
  refine aw_iald (pc := 9) C dX7_of_9 hp9 ?_
  exact aw_iret (pc := 10) C hr dX7_of_10 ⟨Nat.le_of_ble_eq_true rfl, Nat.le_of_ble_eq_true rfl⟩ ⟨_, rfl, hw⟩
theorem dX7_distance_0 : decode cX7_distance 0 = .ok (.aload_n 0, 1) := by decide +kernel
theorem dX7_distance_1 : decode cX7_distance 1 = .ok (.getfield 22, 3) := by decide +kernel
theorem dX7_distance_4 : decode cX7_distance 4 = .ok (.iload_n 1, 1) := by decide +kernel
theorem dX7_distance_5 : decode cX7_distance 5 = .ok (.iaload, 1) := by decide +kernel
theorem dX7_distance_6 : decode cX7_distance 6 = .ok (.istore_n 3, 1) := by decide +kernel
theorem dX7_distance_7 : decode cX7_distance 7 = .ok (.aload_n 0, 1) := by decide +kernel
theorem dX7_distance_8 : decode cX7_distance 8 = .ok (.getfield 22, 3) := by decide +kernel
theorem dX7_distance_11 : decode cX7_distance 11 = .ok (.bipush 40, 2) := by decide +kernel
theorem dX7_distance_13 : decode cX7_distance 13 = .ok (.iload_n 2, 1) := by decide +kernel
theorem dX7_distance_14 : decode cX7_distance 14 = .ok (.iadd, 1) := by decide +kernel
theorem dX7_distance_15 : decode cX7_distance 15 = .ok (.iaload, 1) := by decide +kernel
theorem dX7_distance_16 : decode cX7_distance 16 = .ok (.istore 4, 2) := by decide +kernel
theorem dX7_distance_18 : decode cX7_distance 18 = .ok (.iload_n 3, 1) := by decide +kernel
theorem dX7_distance_19 : decode cX7_distance 19 = .ok (.bipush 16, 2) := by decide +kernel
theorem dX7_distance_21 : decode cX7_distance 21 = .ok (.irem, 1) := by decide +kernel
theorem dX7_distance_22 : decode cX7_distance 22 = .ok (.iload 4, 2) := by decide +kernel
theorem dX7_distance_24 : decode cX7_distance 24 = .ok (.bipush 16, 2) := by decide +kernel
theorem dX7_distance_26 : decode cX7_distance 26 = .ok (.irem, 1) := by decide +kernel
theorem dX7_distance_27 : decode cX7_distance 27 = .ok (.isub, 1) := by decide +kernel
theorem dX7_distance_28 : decode cX7_distance 28 = .ok (.invokestatic 69, 3) := by decide +kernel
theorem dX7_distance_31 : decode cX7_distance 31 = .ok (.aload_n 0, 1) := by decide +kernel
theorem dX7_distance_32 : decode cX7_distance 32 = .ok (.iconst 0, 1) := by decide +kernel
theorem dX7_distance_33 : decode cX7_distance 33 = .ok (.invokevirtual 73, 3) := by decide +kernel
theorem dX7_distance_36 : decode cX7_distance 36 = .ok (.iload_n 3, 1) := by decide +kernel
theorem dX7_distance_37 : decode cX7_distance 37 = .ok (.bipush 16, 2) := by decide +kernel
theorem dX7_distance_39 : decode cX7_distance 39 = .ok (.idiv, 1) := by decide +kernel
theorem dX7_distance_40 : decode cX7_distance 40 = .ok (.iload 4, 2) := by decide +kernel
theorem dX7_distance_42 : decode cX7_distance 42 = .ok (.bipush 16, 2) := by decide +kernel
theorem dX7_distance_44 : decode cX7_distance 44 = .ok (.idiv, 1) := by decide +kernel
theorem dX7_distance_45 : decode cX7_distance 45 = .ok (.isub, 1) := by decide +kernel
theorem dX7_distance_46 : decode cX7_distance 46 = .ok (.invokestatic 69, 3) := by decide +kernel
theorem dX7_distance_49 : decode cX7_distance 49 = .ok (.imul, 1) := by decide +kernel
theorem dX7_distance_50 : decode cX7_distance 50 = .ok (.iadd, 1) := by decide +kernel
theorem dX7_distance_51 : decode cX7_distance 51 = .ok (.ireturn, 1) := by decide +kernel
theorem pd_X7_distance : (parseMethodDescriptor yX7_distance.desc).map (fun d => d.parameters.length) = some 2 := by decide +kernel
def w_X7_distance (zz : Nat → Nat) (a0 : Nat) (a1 : Int) (a2 : Int) (h : AH) (Q : Int → AH → Prop) : Prop := okA h a0 7 ∧ ∃ b1 : Nat, hfR h a0 7 = some b1 ∧ okI h b1 a1 ∧ ∀ x3_6 : Int, x3_6 = (haI h b1 a1) → okA h a0 7 ∧ ∃ b8 : Nat, hfR h a0 7 = some b8 ∧ inR ((40 : Int) + a2) ∧ okI h b8 ((40 : Int) + a2) ∧ ∀ x4_16 : Int, x4_16 = (haI h b8 ((40 : Int) + a2)) → (0 ≤ x3_6 ∧ 0 < (16 : Int)) ∧ (0 ≤ x4_16 ∧ 0 < (16 : Int)) ∧ inR ((x3_6 % (16 : Int)) - (x4_16 % (16 : Int))) ∧ w_X7_size zz ((x3_6 % (16 : Int)) - (x4_16 % (16 : Int))) h (fun (r28 : Int) (h28 : AH) => okA h28 a0 7 ∧ w_X7_of zz a0 (0 : Int) h28 (fun (r33 : Int) (h33 : AH) => (0 ≤ x3_6 ∧ 0 < (16 : Int)) ∧ (0 ≤ x4_16 ∧ 0 < (16 : Int)) ∧ inR ((x3_6 / (16 : Int)) - (x4_16 / (16 : Int))) ∧ w_X7_size zz ((x3_6 / (16 : Int)) - (x4_16 / (16 : Int))) h33 (fun (r46 : Int) (h46 : AH) => inR (r33 * r46) ∧ inR (r28 + (r33 * r46)) ∧ Q (r28 + (r33 * r46)) h46)))
set_option maxRecDepth 100000 in
set_option maxHeartbeats 4000000 in
theorem met_X7_distance (G : GG) (l : Launch) : ∀ (As : List Value) (a0 : Nat) (a1 : Int) (a2 : Int) (h : AH) (Q : Int → AH → Prop), As.map ab = List.map some ([vR a0, vI a1, vI a2] : List AV) → w_X7_distance G.2.2 a0 a1 a2 h Q → Met l yX7_distance (.code yX7_distance cX7_distance 5 (some .int) :: xTb) ({ frames := 1, cells := 0, slots := 0, locals := 21 } : Room) (PcA G As h) (QG G (oI Q)) 0 0 (frA G) := by
  intro As a0 a1 a2 h Q hA hw
  refine met_of hA (by decide) (Nat.le_of_ble_eq_true rfl) (fun p e s m args below meth c C hml hr hnm => ?_)
  unfold w_X7_distance at hw
  refine aw_aload_n (pc := 0) C dX7_distance_0 rfl rfl ?_
  obtain ⟨hp9, b1, hb9, hw⟩ := hw
  refine aw_getR (pc := 1) C (ci := 7) (k := 7) ci7 (by decide) tw799 dX7_distance_1 rfl hp9 hb9 ?_
  refine aw_iload_n (pc := 4) C dX7_distance_4 rfl rfl ?_
  obtain ⟨⟨k9, hp9⟩, hw⟩ := hw
  refine aw_iald (pc := 5) C dX7_distance_5 hp9 ?_
  refine aw_nmI (fun x3_6 e9 => ?_)
  have hw := hw x3_6 e9
  refine aw_istore_n (pc := 6) C dX7_distance_6 rfl (by rw [hml]; decide) ?_
  refine aw_aload_n (pc := 7) C dX7_distance_7 rfl rfl ?_
  obtain ⟨hp9, b8, hb9, hw⟩ := hw
  refine aw_getR (pc := 8) C (ci := 7) (k := 7) ci7 (by decide) tw799 dX7_distance_8 rfl hp9 hb9 ?_
  refine aw_bipush (pc := 11) C dX7_distance_11 (i := (40 : Int)) (by decide) ?_
  refine aw_iload_n (pc := 13) C dX7_distance_13 rfl rfl ?_
  obtain ⟨hp9, hw⟩ := hw
  refine aw_iadd (pc := 14) C dX7_distance_14 hp9 ?_
  obtain ⟨⟨k9, hp9⟩, hw⟩ := hw
  refine aw_iald (pc := 15) C dX7_distance_15 hp9 ?_
  refine aw_nmI (fun x4_16 e9 => ?_)
  have hw := hw x4_16 e9
  refine aw_istore (pc := 16) C dX7_distance_16 (by rw [hml]; decide) ?_
  refine aw_iload_n (pc := 18) C dX7_distance_18 rfl rfl ?_
  refine aw_bipush (pc := 19) C dX7_distance_19 (i := (16 : Int)) (by decide) ?_
  obtain ⟨hp9, hw⟩ := hw
  refine aw_irem (pc := 21) C dX7_distance_21 hp9 ?_
  refine aw_iload (pc := 22) C dX7_distance_22 rfl ?_
  refine aw_bipush (pc := 24) C dX7_distance_24 (i := (16 : Int)) (by decide) ?_
  obtain ⟨hp9, hw⟩ := hw
  refine aw_irem (pc := 26) C dX7_distance_26 hp9 ?_
  obtain ⟨hp9, hw⟩ := hw
  refine aw_isub (pc := 27) C dX7_distance_27 hp9 ?_
  refine aw_callS (pc := 28) (as := [vI ((x3_6 % (16 : Int)) - (x4_16 % (16 : Int)))]) C (fun As hA => met_X7_size G l As ((x3_6 % (16 : Int)) - (x4_16 % (16 : Int))) _ _ hA hw) tw942 tw943 tw10 tw944 ⟨rfl, rfl⟩ ⟨by decide, by decide, pd_X7_size⟩ ⟨Nat.le_of_ble_eq_true rfl, Nat.le_of_ble_eq_true rfl⟩ ⟨Nat.zero_le _, Nat.zero_le _⟩ (Nat.le_of_ble_eq_true rfl) dX7_distance_28 rfl (fun v9 h28 hq9 => ?_)
  obtain ⟨r28, rfl, hw⟩ := hq9
  refine aw_aload_n (pc := 31) C dX7_distance_31 rfl rfl ?_
  refine aw_iconst (pc := 32) C dX7_distance_32 (i := (0 : Int)) (by decide) ?_
  obtain ⟨hp9, hw⟩ := hw
  refine aw_callV (pc := 33) (as := [vI (0 : Int)]) C ci7 (fun As hA => met_X7_of G l As a0 (0 : Int) _ _ hA hw) tw945 tw947 (tbp 46 (n := 21) (by decide +kernel)) tw10 tw948 ⟨rfl, rfl⟩ ⟨rfl, by decide, by decide, pd_X7_of⟩ ⟨Nat.le_of_ble_eq_true rfl, Nat.le_of_ble_eq_true rfl⟩ ⟨Nat.zero_le _, Nat.zero_le _⟩ (Nat.le_of_ble_eq_true rfl) dX7_distance_33 rfl hp9 (fun v9 h33 hq9 => ?_)
  obtain ⟨r33, rfl, hw⟩ := hq9
  refine aw_iload_n (pc := 36) C dX7_distance_36 rfl rfl ?_
  refine aw_bipush (pc := 37) C dX7_distance_37 (i := (16 : Int)) (by decide) ?_
  obtain ⟨hp9, hw⟩ := hw
  refine aw_idiv (pc := 39) C dX7_distance_39 hp9 ?_
  refine aw_iload (pc := 40) C dX7_distance_40 rfl ?_
  refine aw_bipush (pc := 42) C dX7_distance_42 (i := (16 : Int)) (by decide) ?_
  obtain ⟨hp9, hw⟩ := hw
  refine aw_idiv (pc := 44) C dX7_distance_44 hp9 ?_
  obtain ⟨hp9, hw⟩ := hw
  refine aw_isub (pc := 45) C dX7_distance_45 hp9 ?_
  refine aw_callS (pc := 46) (as := [vI ((x3_6 / (16 : Int)) - (x4_16 / (16 : Int)))]) C (fun As hA => met_X7_size G l As ((x3_6 / (16 : Int)) - (x4_16 / (16 : Int))) _ _ hA hw) tw942 tw943 tw10 tw944 ⟨rfl, rfl⟩ ⟨by decide, by decide, pd_X7_size⟩ ⟨Nat.le_of_ble_eq_true rfl, Nat.le_of_ble_eq_true rfl⟩ ⟨Nat.zero_le _, Nat.zero_le _⟩ (Nat.le_of_ble_eq_true rfl) dX7_distance_46 rfl (fun v9 h46 hq9 => ?_)
  obtain ⟨r46, rfl, hw⟩ := hq9
  obtain ⟨hp9, hw⟩ := hw
  refine aw_imul (pc := 49) C dX7_distance_49 hp9 ?_
  obtain ⟨hp9, hw⟩ := hw
  refine aw_iadd (pc := 50) C dX7_distance_50 hp9 ?_
  exact aw_iret (pc := 51) C hr dX7_distance_51 ⟨Nat.le_of_ble_eq_true rfl, Nat.le_of_ble_eq_true rfl⟩ ⟨_, rfl, hw⟩
theorem dX7_areEqual_0 : decode cX7_areEqual 0 = .ok (.aload_n 0, 1) := by decide +kernel
theorem dX7_areEqual_1 : decode cX7_areEqual 1 = .ok (.getfield 25, 3) := by decide +kernel
theorem dX7_areEqual_4 : decode cX7_areEqual 4 = .ok (.iload_n 1, 1) := by decide +kernel
theorem dX7_areEqual_5 : decode cX7_areEqual 5 = .ok (.iaload, 1) := by decide +kernel
theorem dX7_areEqual_6 : decode cX7_areEqual 6 = .ok (.aload_n 0, 1) := by decide +kernel
theorem dX7_areEqual_7 : decode cX7_areEqual 7 = .ok (.getfield 25, 3) := by decide +kernel
theorem dX7_areEqual_10 : decode cX7_areEqual 10 = .ok (.bipush 40, 2) := by decide +kernel
theorem dX7_areEqual_12 : decode cX7_areEqual 12 = .ok (.iload_n 2, 1) := by decide +kernel
theorem dX7_areEqual_13 : decode cX7_areEqual 13 = .ok (.iadd, 1) := by decide +kernel
theorem dX7_areEqual_14 : decode cX7_areEqual 14 = .ok (.iaload, 1) := by decide +kernel
theorem dX7_areEqual_15 : decode cX7_areEqual 15 = .ok (.if_icmp .ne 7, 3) := by decide +kernel
theorem dX7_areEqual_18 : decode cX7_areEqual 18 = .ok (.iconst 1, 1) := by decide +kernel
theorem dX7_areEqual_19 : decode cX7_areEqual 19 = .ok (.goto 4, 3) := by decide +kernel
theorem dX7_areEqual_22 : decode cX7_areEqual 22 = .ok (.iconst 0, 1) := by decide +kernel
theorem dX7_areEqual_23 : decode cX7_areEqual 23 = .ok (.ireturn, 1) := by decide +kernel
theorem pd_X7_areEqual : (parseMethodDescriptor yX7_areEqual.desc).map (fun d => d.parameters.length) = some 2 := by decide +kernel
def w_X7_areEqual (zz : Nat → Nat) (a0 : Nat) (a1 : Int) (a2 : Int) (h : AH) (Q : Int → AH → Prop) : Prop := okA h a0 7 ∧ ∃ b1 : Nat, hfR h a0 8 = some b1 ∧ okI h b1 a1 ∧ okA h a0 7 ∧ ∃ b7 : Nat, hfR h a0 8 = some b7 ∧ inR ((40 : Int) + a2) ∧ okI h b7 ((40 : Int) + a2) ∧ jn (fun (t0_23 : Int) (h_23 : AH) => (t0_23 = 0 ∨ t0_23 = 1) ∧ Q t0_23 h_23) (fun k_23 : Int → AH → Prop => ((¬ (haI h b1 a1) = (haI h b7 ((40 : Int) + a2))) → k_23 (0 : Int) h) ∧ (((haI h b1 a1) = (haI h b7 ((40 : Int) + a2))) → k_23 (1 : Int) h))
set_option maxRecDepth 100000 in
set_option maxHeartbeats 4000000 in
theorem met_X7_areEqual (G : GG) (l : Launch) : ∀ (As : List Value) (a0 : Nat) (a1 : Int) (a2 : Int) (h : AH) (Q : Int → AH → Prop), As.map ab = List.map some ([vR a0, vI a1, vI a2] : List AV) → w_X7_areEqual G.2.2 a0 a1 a2 h Q → Met l yX7_areEqual (.code yX7_areEqual cX7_areEqual 3 (some .boolean) :: xTb) ({ frames := 0, cells := 0, slots := 0, locals := 0 } : Room) (PcA G As h) (QG G (oI Q)) 0 0 (frA G) := by
  intro As a0 a1 a2 h Q hA hw
  refine met_of hA (by decide) (Nat.le_of_ble_eq_true rfl) (fun p e s m args below meth c C hml hr hnm => ?_)
  unfold w_X7_areEqual at hw
  refine aw_aload_n (pc := 0) C dX7_areEqual_0 rfl rfl ?_
  obtain ⟨hp9, b1, hb9, hw⟩ := hw
  refine aw_getR (pc := 1) C (ci := 7) (k := 8) ci7 (by decide) tw800 dX7_areEqual_1 rfl hp9 hb9 ?_
  refine aw_iload_n (pc := 4) C dX7_areEqual_4 rfl rfl ?_
  obtain ⟨⟨k9, hp9⟩, hw⟩ := hw
  refine aw_iald (pc := 5) C dX7_areEqual_5 hp9 ?_
  refine aw_aload_n (pc := 6) C dX7_areEqual_6 rfl rfl ?_
  obtain ⟨hp9, b7, hb9, hw⟩ := hw
  refine aw_getR (pc := 7) C (ci := 7) (k := 8) ci7 (by decide) tw800 dX7_areEqual_7 rfl hp9 hb9 ?_
  refine aw_bipush (pc := 10) C dX7_areEqual_10 (i := (40 : Int)) (by decide) ?_
  refine aw_iload_n (pc := 12) C dX7_areEqual_12 rfl rfl ?_
  obtain ⟨hp9, hw⟩ := hw
  refine aw_iadd (pc := 13) C dX7_areEqual_13 hp9 ?_
  obtain ⟨⟨k9, hp9⟩, hw⟩ := hw
  refine aw_iald (pc := 14) C dX7_areEqual_14 hp9 ?_
  obtain ⟨k_23, hk_23, hw⟩ := jn_out hw
  have J_23 : ∀ (t0_23 : Int) (h_23 : AH), k_23 t0_23 h_23 → AW G p l e ({ frames := 0, cells := 0, slots := 0, locals := 0 } : Room) s m args below meth c 0 0 (MQ below (QG G (oI Q)) args s 0 0 (frA G)) 23 (eOf []) [vI t0_23] h_23 := by
    intro t0_23 h_23 hw
    rw [hk_23] at hw
    obtain ⟨hp9, hw⟩ := hw
    exact aw_zret (pc := 23) C hr dX7_areEqual_23 ⟨Nat.le_of_ble_eq_true rfl, Nat.le_of_ble_eq_true rfl⟩ hp9 ⟨_, rfl, hw⟩
  refine aw_icmp_ne (pc := 15) (tgt := 22) C dX7_areEqual_15 (by decide) (fun hc9 => ?_) (fun hc9 => ?_)
  · have hw := hw.1 hc9
    refine aw_iconst (pc := 22) C dX7_areEqual_22 (i := (0 : Int)) (by decide) ?_
    refine aw_sub [] trivial ?_
    exact J_23 _ _ hw
  · have hw := hw.2 hc9
    refine aw_iconst (pc := 18) C dX7_areEqual_18 (i := (1 : Int)) (by decide) ?_
    refine aw_goto (pc := 19) (tgt := 23) C dX7_areEqual_19 (by decide) ?_
    refine aw_sub [] trivial ?_
    exact J_23 _ _ hw
theorem dX7_canPair_0 : decode cX7_canPair 0 = .ok (.aload_n 0, 1) := by decide +kernel
theorem dX7_canPair_1 : decode cX7_canPair 1 = .ok (.getfield 28, 3) := by decide +kernel
theorem dX7_canPair_4 : decode cX7_canPair 4 = .ok (.iload_n 1, 1) := by decide +kernel
theorem dX7_canPair_5 : decode cX7_canPair 5 = .ok (.iaload, 1) := by decide +kernel
theorem dX7_canPair_6 : decode cX7_canPair 6 = .ok (.iconst (-1), 1) := by decide +kernel
theorem dX7_canPair_7 : decode cX7_canPair 7 = .ok (.if_icmp .ne 20, 3) := by decide +kernel
theorem dX7_canPair_10 : decode cX7_canPair 10 = .ok (.aload_n 0, 1) := by decide +kernel
theorem dX7_canPair_11 : decode cX7_canPair 11 = .ok (.getfield 28, 3) := by decide +kernel
theorem dX7_canPair_14 : decode cX7_canPair 14 = .ok (.bipush 40, 2) := by decide +kernel
theorem dX7_canPair_16 : decode cX7_canPair 16 = .ok (.iload_n 2, 1) := by decide +kernel
theorem dX7_canPair_17 : decode cX7_canPair 17 = .ok (.iadd, 1) := by decide +kernel
theorem dX7_canPair_18 : decode cX7_canPair 18 = .ok (.iaload, 1) := by decide +kernel
theorem dX7_canPair_19 : decode cX7_canPair 19 = .ok (.iconst (-1), 1) := by decide +kernel
theorem dX7_canPair_20 : decode cX7_canPair 20 = .ok (.if_icmp .ne 7, 3) := by decide +kernel
theorem dX7_canPair_23 : decode cX7_canPair 23 = .ok (.iconst 1, 1) := by decide +kernel
theorem dX7_canPair_24 : decode cX7_canPair 24 = .ok (.goto 4, 3) := by decide +kernel
theorem dX7_canPair_27 : decode cX7_canPair 27 = .ok (.iconst 0, 1) := by decide +kernel
theorem dX7_canPair_28 : decode cX7_canPair 28 = .ok (.istore 4, 2) := by decide +kernel
theorem dX7_canPair_30 : decode cX7_canPair 30 = .ok (.aload_n 0, 1) := by decide +kernel
theorem dX7_canPair_31 : decode cX7_canPair 31 = .ok (.iload_n 1, 1) := by decide +kernel
theorem dX7_canPair_32 : decode cX7_canPair 32 = .ok (.iload_n 2, 1) := by decide +kernel
theorem dX7_canPair_33 : decode cX7_canPair 33 = .ok (.invokevirtual 84, 3) := by decide +kernel
theorem dX7_canPair_36 : decode cX7_canPair 36 = .ok (.aload_n 0, 1) := by decide +kernel
theorem dX7_canPair_37 : decode cX7_canPair 37 = .ok (.iload_n 3, 1) := by decide +kernel
theorem dX7_canPair_38 : decode cX7_canPair 38 = .ok (.iconst 2, 1) := by decide +kernel
theorem dX7_canPair_39 : decode cX7_canPair 39 = .ok (.if_icmp .ne 7, 3) := by decide +kernel
theorem dX7_canPair_42 : decode cX7_canPair 42 = .ok (.iconst 1, 1) := by decide +kernel
theorem dX7_canPair_43 : decode cX7_canPair 43 = .ok (.goto 4, 3) := by decide +kernel
theorem dX7_canPair_46 : decode cX7_canPair 46 = .ok (.iconst 2, 1) := by decide +kernel
theorem dX7_canPair_47 : decode cX7_canPair 47 = .ok (.invokevirtual 73, 3) := by decide +kernel
theorem dX7_canPair_50 : decode cX7_canPair 50 = .ok (.if_icmp .gt 7, 3) := by decide +kernel
theorem dX7_canPair_53 : decode cX7_canPair 53 = .ok (.iconst 1, 1) := by decide +kernel
theorem dX7_canPair_54 : decode cX7_canPair 54 = .ok (.goto 4, 3) := by decide +kernel
theorem dX7_canPair_57 : decode cX7_canPair 57 = .ok (.iconst 0, 1) := by decide +kernel
theorem dX7_canPair_58 : decode cX7_canPair 58 = .ok (.istore 5, 2) := by decide +kernel
theorem dX7_canPair_60 : decode cX7_canPair 60 = .ok (.aload_n 0, 1) := by decide +kernel
theorem dX7_canPair_61 : decode cX7_canPair 61 = .ok (.iconst 3, 1) := by decide +kernel
theorem dX7_canPair_62 : decode cX7_canPair 62 = .ok (.invokevirtual 73, 3) := by decide +kernel
theorem dX7_canPair_65 : decode cX7_canPair 65 = .ok (.ifCond .eq 27, 3) := by decide +kernel
theorem dX7_canPair_68 : decode cX7_canPair 68 = .ok (.aload_n 0, 1) := by decide +kernel
theorem dX7_canPair_69 : decode cX7_canPair 69 = .ok (.getfield 22, 3) := by decide +kernel
theorem dX7_canPair_72 : decode cX7_canPair 72 = .ok (.iload_n 1, 1) := by decide +kernel
theorem dX7_canPair_73 : decode cX7_canPair 73 = .ok (.iaload, 1) := by decide +kernel
theorem dX7_canPair_74 : decode cX7_canPair 74 = .ok (.bipush 16, 2) := by decide +kernel
theorem dX7_canPair_76 : decode cX7_canPair 76 = .ok (.idiv, 1) := by decide +kernel
theorem dX7_canPair_77 : decode cX7_canPair 77 = .ok (.aload_n 0, 1) := by decide +kernel
theorem dX7_canPair_78 : decode cX7_canPair 78 = .ok (.getfield 22, 3) := by decide +kernel
theorem dX7_canPair_81 : decode cX7_canPair 81 = .ok (.bipush 40, 2) := by decide +kernel
theorem dX7_canPair_83 : decode cX7_canPair 83 = .ok (.iload_n 2, 1) := by decide +kernel
theorem dX7_canPair_84 : decode cX7_canPair 84 = .ok (.iadd, 1) := by decide +kernel
theorem dX7_canPair_85 : decode cX7_canPair 85 = .ok (.iaload, 1) := by decide +kernel
theorem dX7_canPair_86 : decode cX7_canPair 86 = .ok (.bipush 16, 2) := by decide +kernel
theorem dX7_canPair_88 : decode cX7_canPair 88 = .ok (.idiv, 1) := by decide +kernel
theorem dX7_canPair_89 : decode cX7_canPair 89 = .ok (.if_icmp .ne 7, 3) := by decide +kernel
theorem dX7_canPair_92 : decode cX7_canPair 92 = .ok (.iconst 1, 1) := by decide +kernel
theorem dX7_canPair_93 : decode cX7_canPair 93 = .ok (.goto 4, 3) := by decide +kernel
theorem dX7_canPair_96 : decode cX7_canPair 96 = .ok (.iconst 0, 1) := by decide +kernel
theorem dX7_canPair_97 : decode cX7_canPair 97 = .ok (.istore 6, 2) := by decide +kernel
theorem dX7_canPair_99 : decode cX7_canPair 99 = .ok (.iload 4, 2) := by decide +kernel
theorem dX7_canPair_101 : decode cX7_canPair 101 = .ok (.ifCond .eq 31, 3) := by decide +kernel
theorem dX7_canPair_104 : decode cX7_canPair 104 = .ok (.iload 5, 2) := by decide +kernel
theorem dX7_canPair_106 : decode cX7_canPair 106 = .ok (.ifCond .eq 26, 3) := by decide +kernel
theorem dX7_canPair_109 : decode cX7_canPair 109 = .ok (.iload 6, 2) := by decide +kernel
theorem dX7_canPair_111 : decode cX7_canPair 111 = .ok (.ifCond .eq 21, 3) := by decide +kernel
theorem dX7_canPair_114 : decode cX7_canPair 114 = .ok (.iload_n 3, 1) := by decide +kernel
theorem dX7_canPair_115 : decode cX7_canPair 115 = .ok (.iconst 3, 1) := by decide +kernel
theorem dX7_canPair_116 : decode cX7_canPair 116 = .ok (.if_icmp .eq 12, 3) := by decide +kernel
theorem dX7_canPair_119 : decode cX7_canPair 119 = .ok (.aload_n 0, 1) := by decide +kernel
theorem dX7_canPair_120 : decode cX7_canPair 120 = .ok (.iload_n 1, 1) := by decide +kernel
theorem dX7_canPair_121 : decode cX7_canPair 121 = .ok (.iload_n 2, 1) := by decide +kernel
theorem dX7_canPair_122 : decode cX7_canPair 122 = .ok (.invokevirtual 76, 3) := by decide +kernel
theorem dX7_canPair_125 : decode cX7_canPair 125 = .ok (.ifCond .eq 7, 3) := by decide +kernel
theorem dX7_canPair_128 : decode cX7_canPair 128 = .ok (.iconst 1, 1) := by decide +kernel
theorem dX7_canPair_129 : decode cX7_canPair 129 = .ok (.goto 4, 3) := by decide +kernel
theorem dX7_canPair_132 : decode cX7_canPair 132 = .ok (.iconst 0, 1) := by decide +kernel
theorem dX7_canPair_133 : decode cX7_canPair 133 = .ok (.ireturn, 1) := by decide +kernel
theorem pd_X7_canPair : (parseMethodDescriptor yX7_canPair.desc).map (fun d => d.parameters.length) = some 3 := by decide +kernel
def w_X7_canPair (zz : Nat → Nat) (a0 : Nat) (a1 : Int) (a2 : Int) (a3 : Int) (h : AH) (Q : Int → AH → Prop) : Prop := okA h a0 7 ∧ ∃ b1 : Nat, hfR h a0 9 = some b1 ∧ okI h b1 a1 ∧ jn (fun (t0_28 : Int) (h_28 : AH) => okA h_28 a0 7 ∧ w_X7_distance zz a0 a1 a2 h_28 (fun (r33 : Int) (h33 : AH) => jn (fun (t2_47 : Int) (h_47 : AH) => okA h_47 a0 7 ∧ w_X7_of zz a0 t2_47 h_47 (fun (r47 : Int) (h47 : AH) => jn (fun (t0_58 : Int) (h_58 : AH) => okA h_58 a0 7 ∧ w_X7_of zz a0 (3 : Int) h_58 (fun (r62 : Int) (h62 : AH) => jn (fun (t0_97 : Int) (h_97 : AH) => jn (fun (t0_133 : Int) (h_133 : AH) => (t0_133 = 0 ∨ t0_133 = 1) ∧ Q t0_133 h_133) (fun k_133 : Int → AH → Prop => jn (fun  (h_132 : AH) => k_133 (0 : Int) h_132) (fun k_132 : AH → Prop => ((t0_28 = 0) → k_132  h_97) ∧ ((¬ (t0_28 = 0)) → ((t0_58 = 0) → k_132  h_97) ∧ ((¬ (t0_58 = 0)) → ((t0_97 = 0) → k_132  h_97) ∧ ((¬ (t0_97 = 0)) → jn (fun  (h_128 : AH) => k_133 (1 : Int) h_128) (fun k_128 : AH → Prop => ((a3 = (3 : Int)) → k_128  h_97) ∧ ((¬ (a3 = (3 : Int))) → okA h_97 a0 7 ∧ w_X7_areEqual zz a0 a1 a2 h_97 (fun (r122 : Int) (h122 : AH) => ((r122 = 0) → k_132  h122) ∧ ((¬ (r122 = 0)) → k_128  h122)))))))))) (fun k_97 : Int → AH → Prop => jn (fun  (h_92 : AH) => k_97 (1 : Int) h_92) (fun k_92 : AH → Prop => ((r62 = 0) → k_92  h62) ∧ ((¬ (r62 = 0)) → okA h62 a0 7 ∧ ∃ b69 : Nat, hfR h62 a0 7 = some b69 ∧ okI h62 b69 a1 ∧ (0 ≤ (haI h62 b69 a1) ∧ 0 < (16 : Int)) ∧ okA h62 a0 7 ∧ ∃ b78 : Nat, hfR h62 a0 7 = some b78 ∧ inR ((40 : Int) + a2) ∧ okI h62 b78 ((40 : Int) + a2) ∧ (0 ≤ (haI h62 b78 ((40 : Int) + a2)) ∧ 0 < (16 : Int)) ∧ ((¬ ((haI h62 b69 a1) / (16 : Int)) = ((haI h62 b78 ((40 : Int) + a2)) / (16 : Int))) → k_97 (0 : Int) h62) ∧ ((((haI h62 b69 a1) / (16 : Int)) = ((haI h62 b78 ((40 : Int) + a2)) / (16 : Int))) → k_92  h62)))))) (fun k_58 : Int → AH → Prop => ((r47 < r33) → k_58 (0 : Int) h47) ∧ ((¬ (r47 < r33)) → k_58 (1 : Int) h47)))) (fun k_47 : Int → AH → Prop => ((¬ a3 = (2 : Int)) → k_47 (2 : Int) h33) ∧ ((a3 = (2 : Int)) → k_47 (1 : Int) h33)))) (fun k_28 : Int → AH → Prop => jn (fun  (h_27 : AH) => k_28 (0 : Int) h_27) (fun k_27 : AH → Prop => ((¬ (haI h b1 a1) = (-1 : Int)) → k_27  h) ∧ (((haI h b1 a1) = (-1 : Int)) → okA h a0 7 ∧ ∃ b11 : Nat, hfR h a0 9 = some b11 ∧ inR ((40 : Int) + a2) ∧ okI h b11 ((40 : Int) + a2) ∧ ((¬ (haI h b11 ((40 : Int) + a2)) = (-1 : Int)) → k_27  h) ∧ (((haI h b11 ((40 : Int) + a2)) = (-1 : Int)) → k_28 (1 : Int) h))))
set_option maxRecDepth 100000 in
set_option maxHeartbeats 4000000 in
theorem met_X7_canPair (G : GG) (l : Launch) : ∀ (As : List Value) (a0 : Nat) (a1 : Int) (a2 : Int) (a3 : Int) (h : AH) (Q : Int → AH → Prop), As.map ab = List.map some ([vR a0, vI a1, vI a2, vI a3] : List AV) → w_X7_canPair G.2.2 a0 a1 a2 a3 h Q → Met l yX7_canPair (.code yX7_canPair cX7_canPair 7 (some .boolean) :: xTb) ({ frames := 2, cells := 0, slots := 0, locals := 45 } : Room) (PcA G As h) (QG G (oI Q)) 0 0 (frA G) := by
  intro As a0 a1 a2 a3 h Q hA hw
  refine met_of hA (by decide) (Nat.le_of_ble_eq_true rfl) (fun p e s m args below meth c C hml hr hnm => ?_)
  unfold w_X7_canPair at hw
  refine aw_aload_n (pc := 0) C dX7_canPair_0 rfl rfl ?_
  obtain ⟨hp9, b1, hb9, hw⟩ := hw
  refine aw_getR (pc := 1) C (ci := 7) (k := 9) ci7 (by decide) tw801 dX7_canPair_1 rfl hp9 hb9 ?_
  refine aw_iload_n (pc := 4) C dX7_canPair_4 rfl rfl ?_
  obtain ⟨⟨k9, hp9⟩, hw⟩ := hw
  refine aw_iald (pc := 5) C dX7_canPair_5 hp9 ?_
  refine aw_iconst (pc := 6) C dX7_canPair_6 (i := (-1 : Int)) (by decide) ?_
  obtain ⟨k_28, hk_28, hw⟩ := jn_out hw
  have J_28 : ∀ (t0_28 : Int) (h_28 : AH), k_28 t0_28 h_28 → AW G p l e ({ frames := 2, cells := 0, slots := 0, locals := 45 } : Room) s m args below meth c 0 0 (MQ below (QG G (oI Q)) args s 0 0 (frA G)) 28 (eOf [(0, vR a0), (1, vI a1), (2, vI a2), (3, vI a3)]) [vI t0_28] h_28 := by
    intro t0_28 h_28 hw
    rw [hk_28] at hw
    refine aw_istore (pc := 28) C dX7_canPair_28 (by rw [hml]; decide) ?_
    refine aw_aload_n (pc := 30) C dX7_canPair_30 rfl rfl ?_
    refine aw_iload_n (pc := 31) C dX7_canPair_31 rfl rfl ?_
    refine aw_iload_n (pc := 32) C dX7_canPair_32 rfl rfl ?_
    obtain ⟨hp9, hw⟩ := hw
    refine aw_callV (pc := 33) (as := [vI a1, vI a2]) C ci7 (fun As hA => met_X7_distance G l As a0 a1 a2 _ _ hA hw) tw938 tw940 (tbp 45 (n := 21) (by decide +kernel)) tw10 tw941 ⟨rfl, rfl⟩ ⟨rfl, by decide, by decide, pd_X7_distance⟩ ⟨Nat.le_of_ble_eq_true rfl, Nat.le_of_ble_eq_true rfl⟩ ⟨Nat.zero_le _, Nat.zero_le _⟩ (Nat.le_of_ble_eq_true rfl) dX7_canPair_33 rfl hp9 (fun v9 h33 hq9 => ?_)
    obtain ⟨r33, rfl, hw⟩ := hq9
    refine aw_aload_n (pc := 36) C dX7_canPair_36 rfl rfl ?_
    refine aw_iload_n (pc := 37) C dX7_canPair_37 rfl rfl ?_
    refine aw_iconst (pc := 38) C dX7_canPair_38 (i := (2 : Int)) (by decide) ?_
    obtain ⟨k_47, hk_47, hw⟩ := jn_out hw
    have J_47 : ∀ (t2_47 : Int) (h_47 : AH), k_47 t2_47 h_47 → AW G p l e ({ frames := 2, cells := 0, slots := 0, locals := 45 } : Room) s m args below meth c 0 0 (MQ below (QG G (oI Q)) args s 0 0 (frA G)) 47 (eOf [(0, vR a0), (1, vI a1), (2, vI a2), (3, vI a3), (4, vI t0_28)]) [vI t2_47, vR a0, vI r33] h_47 := by
      intro t2_47 h_47 hw
      rw [hk_47] at hw
      obtain ⟨hp9, hw⟩ := hw
      refine aw_callV (pc := 47) (as := [vI t2_47]) C ci7 (fun As hA => met_X7_of G l As a0 t2_47 _ _ hA hw) tw945 tw947 (tbp 46 (n := 21) (by decide +kernel)) tw10 tw948 ⟨rfl, rfl⟩ ⟨rfl, by decide, by decide, pd_X7_of⟩ ⟨Nat.le_of_ble_eq_true rfl, Nat.le_of_ble_eq_true rfl⟩ ⟨Nat.zero_le _, Nat.zero_le _⟩ (Nat.le_of_ble_eq_true rfl) dX7_canPair_47 rfl hp9 (fun v9 h47 hq9 => ?_)
      obtain ⟨r47, rfl, hw⟩ := hq9
      obtain ⟨k_58, hk_58, hw⟩ := jn_out hw
      have J_58 : ∀ (t0_58 : Int) (h_58 : AH), k_58 t0_58 h_58 → AW G p l e ({ frames := 2, cells := 0, slots := 0, locals := 45 } : Room) s m args below meth c 0 0 (MQ below (QG G (oI Q)) args s 0 0 (frA G)) 58 (eOf [(0, vR a0), (1, vI a1), (2, vI a2), (3, vI a3), (4, vI t0_28)]) [vI t0_58] h_58 := by
        intro t0_58 h_58 hw
        rw [hk_58] at hw
        refine aw_istore (pc := 58) C dX7_canPair_58 (by rw [hml]; decide) ?_
        refine aw_aload_n (pc := 60) C dX7_canPair_60 rfl rfl ?_
        refine aw_iconst (pc := 61) C dX7_canPair_61 (i := (3 : Int)) (by decide) ?_
        obtain ⟨hp9, hw⟩ := hw
        refine aw_callV (pc := 62) (as := [vI (3 : Int)]) C ci7 (fun As hA => met_X7_of G l As a0 (3 : Int) _ _ hA hw) tw945 tw947 (tbp 46 (n := 21) (by decide +kernel)) tw10 tw948 ⟨rfl, rfl⟩ ⟨rfl, by decide, by decide, pd_X7_of⟩ ⟨Nat.le_of_ble_eq_true rfl, Nat.le_of_ble_eq_true rfl⟩ ⟨Nat.zero_le _, Nat.zero_le _⟩ (Nat.le_of_ble_eq_true rfl) dX7_canPair_62 rfl hp9 (fun v9 h62 hq9 => ?_)
        obtain ⟨r62, rfl, hw⟩ := hq9
        obtain ⟨k_97, hk_97, hw⟩ := jn_out hw
        have J_97 : ∀ (t0_97 : Int) (h_97 : AH), k_97 t0_97 h_97 → AW G p l e ({ frames := 2, cells := 0, slots := 0, locals := 45 } : Room) s m args below meth c 0 0 (MQ below (QG G (oI Q)) args s 0 0 (frA G)) 97 (eOf [(0, vR a0), (1, vI a1), (2, vI a2), (3, vI a3), (4, vI t0_28), (5, vI t0_58)]) [vI t0_97] h_97 := by
          intro t0_97 h_97 hw
          rw [hk_97] at hw
          refine aw_istore (pc := 97) C dX7_canPair_97 (by rw [hml]; decide) ?_
          refine aw_iload (pc := 99) C dX7_canPair_99 rfl ?_
          obtain ⟨k_133, hk_133, hw⟩ := jn_out hw
          have J_133 : ∀ (t0_133 : Int) (h_133 : AH), k_133 t0_133 h_133 → AW G p l e ({ frames := 2, cells := 0, slots := 0, locals := 45 } : Room) s m args below meth c 0 0 (MQ below (QG G (oI Q)) args s 0 0 (frA G)) 133 (eOf []) [vI t0_133] h_133 := by
            intro t0_133 h_133 hw
            rw [hk_133] at hw
            obtain ⟨hp9, hw⟩ := hw
            exact aw_zret (pc := 133) C hr dX7_canPair_133 ⟨Nat.le_of_ble_eq_true rfl, Nat.le_of_ble_eq_true rfl⟩ hp9 ⟨_, rfl, hw⟩
          obtain ⟨k_132, hk_132, hw⟩ := jn_out hw
          have J_132 : ∀  (h_132 : AH), k_132  h_132 → AW G p l e ({ frames := 2, cells := 0, slots := 0, locals := 45 } : Room) s m args below meth c 0 0 (MQ below (QG G (oI Q)) args s 0 0 (frA G)) 132 (eOf []) [] h_132 := by
            intro  h_132 hw
            rw [hk_132] at hw
            refine aw_iconst (pc := 132) C dX7_canPair_132 (i := (0 : Int)) (by decide) ?_
            refine aw_sub [] trivial ?_
            exact J_133 _ _ hw
          refine aw_if_eq (pc := 101) (tgt := 132) C dX7_canPair_101 (by decide) (fun hc9 => ?_) (fun hc9 => ?_)
          · have hw := hw.1 hc9
            refine aw_sub [] trivial ?_
            exact J_132  _ hw
          · have hw := hw.2 hc9
            refine aw_iload (pc := 104) C dX7_canPair_104 rfl ?_
            refine aw_if_eq (pc := 106) (tgt := 132) C dX7_canPair_106 (by decide) (fun hc9 => ?_) (fun hc9 => ?_)
            · have hw := hw.1 hc9
              refine aw_sub [] trivial ?_
              exact J_132  _ hw
            · have hw := hw.2 hc9
              refine aw_iload (pc := 109) C dX7_canPair_109 rfl ?_
              refine aw_if_eq (pc := 111) (tgt := 132) C dX7_canPair_111 (by decide) (fun hc9 => ?_) (fun hc9 => ?_)
              · have hw := hw.1 hc9
                refine aw_sub [] trivial ?_
                exact J_132  _ hw
              · have hw := hw.2 hc9
                refine aw_iload_n (pc := 114) C dX7_canPair_114 rfl rfl ?_
                refine aw_iconst (pc := 115) C dX7_canPair_115 (i := (3 : Int)) (by decide) ?_
                obtain ⟨k_128, hk_128, hw⟩ := jn_out hw
                have J_128 : ∀  (h_128 : AH), k_128  h_128 → AW G p l e ({ frames := 2, cells := 0, slots := 0, locals := 45 } : Room) s m args below meth c 0 0 (MQ below (QG G (oI Q)) args s 0 0 (frA G)) 128 (eOf []) [] h_128 := by
                  intro  h_128 hw
                  rw [hk_128] at hw
                  refine aw_iconst (pc := 128) C dX7_canPair_128 (i := (1 : Int)) (by decide) ?_
                  refine aw_goto (pc := 129) (tgt := 133) C dX7_canPair_129 (by decide) ?_
                  refine aw_sub [] trivial ?_
                  exact J_133 _ _ hw
                refine aw_icmp_eq (pc := 116) (tgt := 128) C dX7_canPair_116 (by decide) (fun hc9 => ?_) (fun hc9 => ?_)
                · have hw := hw.1 hc9
                  refine aw_sub [] trivial ?_
                  exact J_128  _ hw
                · have hw := hw.2 hc9
                  refine aw_aload_n (pc := 119) C dX7_canPair_119 rfl rfl ?_
                  refine aw_iload_n (pc := 120) C dX7_canPair_120 rfl rfl ?_
                  refine aw_iload_n (pc := 121) C dX7_canPair_121 rfl rfl ?_
                  obtain ⟨hp9, hw⟩ := hw
                  refine aw_callV (pc := 122) (as := [vI a1, vI a2]) C ci7 (fun As hA => met_X7_areEqual G l As a0 a1 a2 _ _ hA hw) tw922 tw924 (tbp 41 (n := 21) (by decide +kernel)) tw10 tw925 ⟨rfl, rfl⟩ ⟨rfl, by decide, by decide, pd_X7_areEqual⟩ ⟨Nat.le_of_ble_eq_true rfl, Nat.le_of_ble_eq_true rfl⟩ ⟨Nat.zero_le _, Nat.zero_le _⟩ (Nat.le_of_ble_eq_true rfl) dX7_canPair_122 rfl hp9 (fun v9 h122 hq9 => ?_)
                  obtain ⟨r122, rfl, hw⟩ := hq9
                  refine aw_if_eq (pc := 125) (tgt := 132) C dX7_canPair_125 (by decide) (fun hc9 => ?_) (fun hc9 => ?_)
                  · have hw := hw.1 hc9
                    refine aw_sub [] trivial ?_
                    exact J_132  _ hw
                  · have hw := hw.2 hc9
                    refine aw_sub [] trivial ?_
                    exact J_128  _ hw
        obtain ⟨k_92, hk_92, hw⟩ := jn_out hw
        have J_92 : ∀  (h_92 : AH), k_92  h_92 → AW G p l e ({ frames := 2, cells := 0, slots := 0, locals := 45 } : Room) s m args below meth c 0 0 (MQ below (QG G (oI Q)) args s 0 0 (frA G)) 92 (eOf [(0, vR a0), (1, vI a1), (2, vI a2), (3, vI a3), (4, vI t0_28), (5, vI t0_58)]) [] h_92 := by
          intro  h_92 hw
          rw [hk_92] at hw
          refine aw_iconst (pc := 92) C dX7_canPair_92 (i := (1 : Int)) (by decide) ?_
          refine aw_goto (pc := 93) (tgt := 97) C dX7_canPair_93 (by decide) ?_
          refine aw_sub [(0, vR a0), (1, vI a1), (2, vI a2), (3, vI a3), (4, vI t0_28), (5, vI t0_58)] ⟨rfl, rfl, rfl, rfl, rfl, rfl, trivial⟩ ?_
          exact J_97 _ _ hw
        refine aw_if_eq (pc := 65) (tgt := 92) C dX7_canPair_65 (by decide) (fun hc9 => ?_) (fun hc9 => ?_)
        · have hw := hw.1 hc9
          refine aw_sub [(0, vR a0), (1, vI a1), (2, vI a2), (3, vI a3), (4, vI t0_28), (5, vI t0_58)] ⟨rfl, rfl, rfl, rfl, rfl, rfl, trivial⟩ ?_
          exact J_92  _ hw
        · have hw := hw.2 hc9
          refine aw_aload_n (pc := 68) C dX7_canPair_68 rfl rfl ?_
          obtain ⟨hp9, b69, hb9, hw⟩ := hw
          refine aw_getR (pc := 69) C (ci := 7) (k := 7) ci7 (by decide) tw799 dX7_canPair_69 rfl hp9 hb9 ?_
          refine aw_iload_n (pc := 72) C dX7_canPair_72 rfl rfl ?_
          obtain ⟨⟨k9, hp9⟩, hw⟩ := hw
          refine aw_iald (pc := 73) C dX7_canPair_73 hp9 ?_
          refine aw_bipush (pc := 74) C dX7_canPair_74 (i := (16 : Int)) (by decide) ?_
          obtain ⟨hp9, hw⟩ := hw
          refine aw_idiv (pc := 76) C dX7_canPair_76 hp9 ?_
          refine aw_aload_n (pc := 77) C dX7_canPair_77 rfl rfl ?_
          obtain ⟨hp9, b78, hb9, hw⟩ := hw
          refine aw_getR (pc := 78) C (ci := 7) (k := 7) ci7 (by decide) tw799 dX7_canPair_78 rfl hp9 hb9 ?_
          refine aw_bipush (pc := 81) C dX7_canPair_81 (i := (40 : Int)) (by decide) ?_
          refine aw_iload_n (pc := 83) C dX7_canPair_83 rfl rfl ?_
          obtain ⟨hp9, hw⟩ := hw
          refine aw_iadd (pc := 84) C dX7_canPair_84 hp9 ?_
          obtain ⟨⟨k9, hp9⟩, hw⟩ := hw
          refine aw_iald (pc := 85) C dX7_canPair_85 hp9 ?_
          refine aw_bipush (pc := 86) C dX7_canPair_86 (i := (16 : Int)) (by decide) ?_
          obtain ⟨hp9, hw⟩ := hw
          refine aw_idiv (pc := 88) C dX7_canPair_88 hp9 ?_
          refine aw_icmp_ne (pc := 89) (tgt := 96) C dX7_canPair_89 (by decide) (fun hc9 => ?_) (fun hc9 => ?_)
          · have hw := hw.1 hc9
            refine aw_iconst (pc := 96) C dX7_canPair_96 (i := (0 : Int)) (by decide) ?_
            refine aw_sub [(0, vR a0), (1, vI a1), (2, vI a2), (3, vI a3), (4, vI t0_28), (5, vI t0_58)] ⟨rfl, rfl, rfl, rfl, rfl, rfl, trivial⟩ ?_
            exact J_97 _ _ hw
          · have hw := hw.2 hc9
            refine aw_sub [(0, vR a0), (1, vI a1), (2, vI a2), (3, vI a3), (4, vI t0_28), (5, vI t0_58)] ⟨rfl, rfl, rfl, rfl, rfl, rfl, trivial⟩ ?_
            exact J_92  _ hw
      refine aw_icmp_gt (pc := 50) (tgt := 57) C dX7_canPair_50 (by decide) (fun hc9 => ?_) (fun hc9 => ?_)
      · have hw := hw.1 hc9
        refine aw_iconst (pc := 57) C dX7_canPair_57 (i := (0 : Int)) (by decide) ?_
        refine aw_sub [(0, vR a0), (1, vI a1), (2, vI a2), (3, vI a3), (4, vI t0_28)] ⟨rfl, rfl, rfl, rfl, rfl, trivial⟩ ?_
        exact J_58 _ _ hw
      · have hw := hw.2 hc9
        refine aw_iconst (pc := 53) C dX7_canPair_53 (i := (1 : Int)) (by decide) ?_
        refine aw_goto (pc := 54) (tgt := 58) C dX7_canPair_54 (by decide) ?_
        refine aw_sub [(0, vR a0), (1, vI a1), (2, vI a2), (3, vI a3), (4, vI t0_28)] ⟨rfl, rfl, rfl, rfl, rfl, trivial⟩ ?_
        exact J_58 _ _ hw
    refine aw_icmp_ne (pc := 39) (tgt := 46) C dX7_canPair_39 (by decide) (fun hc9 => ?_) (fun hc9 => ?_)
    · have hw := hw.1 hc9
      refine aw_iconst (pc := 46) C dX7_canPair_46 (i := (2 : Int)) (by decide) ?_
      refine aw_sub [(0, vR a0), (1, vI a1), (2, vI a2), (3, vI a3), (4, vI t0_28)] ⟨rfl, rfl, rfl, rfl, rfl, trivial⟩ ?_
      exact J_47 _ _ hw
    · have hw := hw.2 hc9
      refine aw_iconst (pc := 42) C dX7_canPair_42 (i := (1 : Int)) (by decide) ?_
      refine aw_goto (pc := 43) (tgt := 47) C dX7_canPair_43 (by decide) ?_
      refine aw_sub [(0, vR a0), (1, vI a1), (2, vI a2), (3, vI a3), (4, vI t0_28)] ⟨rfl, rfl, rfl, rfl, rfl, trivial⟩ ?_
      exact J_47 _ _ hw
  obtain ⟨k_27, hk_27, hw⟩ := jn_out hw
  have J_27 : ∀  (h_27 : AH), k_27  h_27 → AW G p l e ({ frames := 2, cells := 0, slots := 0, locals := 45 } : Room) s m args below meth c 0 0 (MQ below (QG G (oI Q)) args s 0 0 (frA G)) 27 (eOf [(0, vR a0), (1, vI a1), (2, vI a2), (3, vI a3)]) [] h_27 := by
    intro  h_27 hw
    rw [hk_27] at hw
    refine aw_iconst (pc := 27) C dX7_canPair_27 (i := (0 : Int)) (by decide) ?_
    refine aw_sub [(0, vR a0), (1, vI a1), (2, vI a2), (3, vI a3)] ⟨rfl, rfl, rfl, rfl, trivial⟩ ?_
    exact J_28 _ _ hw
  refine aw_icmp_ne (pc := 7) (tgt := 27) C dX7_canPair_7 (by decide) (fun hc9 => ?_) (fun hc9 => ?_)
  · have hw := hw.1 hc9
    refine aw_sub [(0, vR a0), (1, vI a1), (2, vI a2), (3, vI a3)] ⟨rfl, rfl, rfl, rfl, trivial⟩ ?_
    exact J_27  _ hw
  · have hw := hw.2 hc9
    refine aw_aload_n (pc := 10) C dX7_canPair_10 rfl rfl ?_
    obtain ⟨hp9, b11, hb9, hw⟩ := hw
    refine aw_getR (pc := 11) C (ci := 7) (k := 9) ci7 (by decide) tw801 dX7_canPair_11 rfl hp9 hb9 ?_
    refine aw_bipush (pc := 14) C dX7_canPair_14 (i := (40 : Int)) (by decide) ?_
    refine aw_iload_n (pc := 16) C dX7_canPair_16 rfl rfl ?_
    obtain ⟨hp9, hw⟩ := hw
    refine aw_iadd (pc := 17) C dX7_canPair_17 hp9 ?_
    obtain ⟨⟨k9, hp9⟩, hw⟩ := hw
    refine aw_iald (pc := 18) C dX7_canPair_18 hp9 ?_
    refine aw_iconst (pc := 19) C dX7_canPair_19 (i := (-1 : Int)) (by decide) ?_
    refine aw_icmp_ne (pc := 20) (tgt := 27) C dX7_canPair_20 (by decide) (fun hc9 => ?_) (fun hc9 => ?_)
    · have hw := hw.1 hc9
      refine aw_sub [(0, vR a0), (1, vI a1), (2, vI a2), (3, vI a3)] ⟨rfl, rfl, rfl, rfl, trivial⟩ ?_
      exact J_27  _ hw
    · have hw := hw.2 hc9
      refine aw_iconst (pc := 23) C dX7_canPair_23 (i := (1 : Int)) (by decide) ?_
      refine aw_goto (pc := 24) (tgt := 28) C dX7_canPair_24 (by decide) ?_
      refine aw_sub [(0, vR a0), (1, vI a1), (2, vI a2), (3, vI a3)] ⟨rfl, rfl, rfl, rfl, trivial⟩ ?_
      exact J_28 _ _ hw
theorem dX7_pair_0 : decode cX7_pair 0 = .ok (.aload_n 0, 1) := by decide +kernel
theorem dX7_pair_1 : decode cX7_pair 1 = .ok (.getfield 28, 3) := by decide +kernel
theorem dX7_pair_4 : decode cX7_pair 4 = .ok (.iload_n 1, 1) := by decide +kernel
theorem dX7_pair_5 : decode cX7_pair 5 = .ok (.iload_n 2, 1) := by decide +kernel
theorem dX7_pair_6 : decode cX7_pair 6 = .ok (.iastore, 1) := by decide +kernel
theorem dX7_pair_7 : decode cX7_pair 7 = .ok (.aload_n 0, 1) := by decide +kernel
theorem dX7_pair_8 : decode cX7_pair 8 = .ok (.getfield 28, 3) := by decide +kernel
theorem dX7_pair_11 : decode cX7_pair 11 = .ok (.bipush 40, 2) := by decide +kernel
theorem dX7_pair_13 : decode cX7_pair 13 = .ok (.iload_n 2, 1) := by decide +kernel
theorem dX7_pair_14 : decode cX7_pair 14 = .ok (.iadd, 1) := by decide +kernel
theorem dX7_pair_15 : decode cX7_pair 15 = .ok (.iload_n 1, 1) := by decide +kernel
theorem dX7_pair_16 : decode cX7_pair 16 = .ok (.iastore, 1) := by decide +kernel
theorem dX7_pair_17 : decode cX7_pair 17 = .ok (.aload_n 0, 1) := by decide +kernel
theorem dX7_pair_18 : decode cX7_pair 18 = .ok (.getfield 31, 3) := by decide +kernel
theorem dX7_pair_21 : decode cX7_pair 21 = .ok (.iload_n 1, 1) := by decide +kernel
theorem dX7_pair_22 : decode cX7_pair 22 = .ok (.iload_n 3, 1) := by decide +kernel
theorem dX7_pair_23 : decode cX7_pair 23 = .ok (.iastore, 1) := by decide +kernel
theorem dX7_pair_24 : decode cX7_pair 24 = .ok (.aload_n 0, 1) := by decide +kernel
theorem dX7_pair_25 : decode cX7_pair 25 = .ok (.getfield 31, 3) := by decide +kernel
theorem dX7_pair_28 : decode cX7_pair 28 = .ok (.bipush 40, 2) := by decide +kernel
theorem dX7_pair_30 : decode cX7_pair 30 = .ok (.iload_n 2, 1) := by decide +kernel
theorem dX7_pair_31 : decode cX7_pair 31 = .ok (.iadd, 1) := by decide +kernel
theorem dX7_pair_32 : decode cX7_pair 32 = .ok (.iload_n 3, 1) := by decide +kernel
theorem dX7_pair_33 : decode cX7_pair 33 = .ok (.iastore, 1) := by decide +kernel
theorem dX7_pair_34 : decode cX7_pair 34 = .ok (.return_, 1) := by decide +kernel
theorem pd_X7_pair : (parseMethodDescriptor yX7_pair.desc).map (fun d => d.parameters.length) = some 3 := by decide +kernel
def w_X7_pair (zz : Nat → Nat) (a0 : Nat) (a1 : Int) (a2 : Int) (a3 : Int) (h : AH) (Q : AH → Prop) : Prop := okA h a0 7 ∧ ∃ b1 : Nat, hfR h a0 9 = some b1 ∧ okW h b1 a1 ∧ ∀ h6 : AH, h6 = saI h b1 (u1 (haI h b1) a1 a2) → okA h6 a0 7 ∧ ∃ b8 : Nat, hfR h6 a0 9 = some b8 ∧ inR ((40 : Int) + a2) ∧ okW h6 b8 ((40 : Int) + a2) ∧ ∀ h16 : AH, h16 = saI h6 b8 (u1 (haI h6 b8) ((40 : Int) + a2) a1) → okA h16 a0 7 ∧ ∃ b18 : Nat, hfR h16 a0 10 = some b18 ∧ okW h16 b18 a1 ∧ ∀ h23 : AH, h23 = saI h16 b18 (u1 (haI h16 b18) a1 a3) → okA h23 a0 7 ∧ ∃ b25 : Nat, hfR h23 a0 10 = some b25 ∧ inR ((40 : Int) + a2) ∧ okW h23 b25 ((40 : Int) + a2) ∧ ∀ h33 : AH, h33 = saI h23 b25 (u1 (haI h23 b25) ((40 : Int) + a2) a3) → Q h33
set_option maxRecDepth 100000 in
set_option maxHeartbeats 4000000 in
theorem met_X7_pair (G : GG) (l : Launch) : ∀ (As : List Value) (a0 : Nat) (a1 : Int) (a2 : Int) (a3 : Int) (h : AH) (Q : AH → Prop), As.map ab = List.map some ([vR a0, vI a1, vI a2, vI a3] : List AV) → w_X7_pair G.2.2 a0 a1 a2 a3 h Q → Met l yX7_pair (.code yX7_pair cX7_pair 4 none :: xTb) ({ frames := 0, cells := 0, slots := 0, locals := 0 } : Room) (PcA G As h) (QG G (oV Q)) 0 0 (frA G) := by
  intro As a0 a1 a2 a3 h Q hA hw
  refine met_of hA (by decide) (Nat.le_of_ble_eq_true rfl) (fun p e s m args below meth c C hml hr hnm => ?_)
  unfold w_X7_pair at hw
  refine aw_aload_n (pc := 0) C dX7_pair_0 rfl rfl ?_
  obtain ⟨hp9, b1, hb9, hw⟩ := hw
  refine aw_getR (pc := 1) C (ci := 7) (k := 9) ci7 (by decide) tw801 dX7_pair_1 rfl hp9 hb9 ?_
  refine aw_iload_n (pc := 4) C dX7_pair_4 rfl rfl ?_
  refine aw_iload_n (pc := 5) C dX7_pair_5 rfl rfl ?_
  obtain ⟨⟨k9, hp9⟩, hw⟩ := hw
  refine aw_iast (pc := 6) C dX7_pair_6 hp9 (aw_nmH (fun h6 e9 => ?_))
  have hw := hw h6 e9
  refine aw_aload_n (pc := 7) C dX7_pair_7 rfl rfl ?_
  obtain ⟨hp9, b8, hb9, hw⟩ := hw
  refine aw_getR (pc := 8) C (ci := 7) (k := 9) ci7 (by decide) tw801 dX7_pair_8 rfl hp9 hb9 ?_
  refine aw_bipush (pc := 11) C dX7_pair_11 (i := (40 : Int)) (by decide) ?_
  refine aw_iload_n (pc := 13) C dX7_pair_13 rfl rfl ?_
  obtain ⟨hp9, hw⟩ := hw
  refine aw_iadd (pc := 14) C dX7_pair_14 hp9 ?_
  refine aw_iload_n (pc := 15) C dX7_pair_15 rfl rfl ?_
  obtain ⟨⟨k9, hp9⟩, hw⟩ := hw
  refine aw_iast (pc := 16) C dX7_pair_16 hp9 (aw_nmH (fun h16 e9 => ?_))
  have hw := hw h16 e9
  refine aw_aload_n (pc := 17) C dX7_pair_17 rfl rfl ?_
  obtain ⟨hp9, b18, hb9, hw⟩ := hw
  refine aw_getR (pc := 18) C (ci := 7) (k := 10) ci7 (by decide) tw802 dX7_pair_18 rfl hp9 hb9 ?_
  refine aw_iload_n (pc := 21) C dX7_pair_21 rfl rfl ?_
  refine aw_iload_n (pc := 22) C dX7_pair_22 rfl rfl ?_
  obtain ⟨⟨k9, hp9⟩, hw⟩ := hw
  refine aw_iast (pc := 23) C dX7_pair_23 hp9 (aw_nmH (fun h23 e9 => ?_))
  have hw := hw h23 e9
  refine aw_aload_n (pc := 24) C dX7_pair_24 rfl rfl ?_
  obtain ⟨hp9, b25, hb9, hw⟩ := hw
  refine aw_getR (pc := 25) C (ci := 7) (k := 10) ci7 (by decide) tw802 dX7_pair_25 rfl hp9 hb9 ?_
  refine aw_bipush (pc := 28) C dX7_pair_28 (i := (40 : Int)) (by decide) ?_
  refine aw_iload_n (pc := 30) C dX7_pair_30 rfl rfl ?_
  obtain ⟨hp9, hw⟩ := hw
  refine aw_iadd (pc := 31) C dX7_pair_31 hp9 ?_
  refine aw_iload_n (pc := 32) C dX7_pair_32 rfl rfl ?_
  obtain ⟨⟨k9, hp9⟩, hw⟩ := hw
  refine aw_iast (pc := 33) C dX7_pair_33 hp9 (aw_nmH (fun h33 e9 => ?_))
  have hw := hw h33 e9
  exact aw_vret (pc := 34) C hr dX7_pair_34 ⟨Nat.le_of_ble_eq_true rfl, Nat.le_of_ble_eq_true rfl⟩ ⟨rfl, hw⟩
theorem dX7_layNearest_0 : decode cX7_layNearest 0 = .ok (.iconst 1, 1) := by decide +kernel
theorem dX7_layNearest_1 : decode cX7_layNearest 1 = .ok (.istore_n 2, 1) := by decide +kernel
theorem dX7_layNearest_2 : decode cX7_layNearest 2 = .ok (.iload_n 2, 1) := by decide +kernel
theorem dX7_layNearest_3 : decode cX7_layNearest 3 = .ok (.ifCond .eq 116, 3) := by decide +kernel
theorem dX7_layNearest_6 : decode cX7_layNearest 6 = .ok (.iconst (-1), 1) := by decide +kernel
theorem dX7_layNearest_7 : decode cX7_layNearest 7 = .ok (.istore_n 3, 1) := by decide +kernel
theorem dX7_layNearest_8 : decode cX7_layNearest 8 = .ok (.iconst (-1), 1) := by decide +kernel
theorem dX7_layNearest_9 : decode cX7_layNearest 9 = .ok (.istore 4, 2) := by decide +kernel
theorem dX7_layNearest_11 : decode cX7_layNearest 11 = .ok (.iconst 0, 1) := by decide +kernel
theorem dX7_layNearest_12 : decode cX7_layNearest 12 = .ok (.istore 5, 2) := by decide +kernel
theorem dX7_layNearest_14 : decode cX7_layNearest 14 = .ok (.iload 5, 2) := by decide +kernel
theorem dX7_layNearest_16 : decode cX7_layNearest 16 = .ok (.aload_n 0, 1) := by decide +kernel
theorem dX7_layNearest_17 : decode cX7_layNearest 17 = .ok (.getfield 19, 3) := by decide +kernel
theorem dX7_layNearest_20 : decode cX7_layNearest 20 = .ok (.iconst 0, 1) := by decide +kernel
theorem dX7_layNearest_21 : decode cX7_layNearest 21 = .ok (.iaload, 1) := by decide +kernel
theorem dX7_layNearest_22 : decode cX7_layNearest 22 = .ok (.if_icmp .ge 71, 3) := by decide +kernel
theorem dX7_layNearest_25 : decode cX7_layNearest 25 = .ok (.iconst 0, 1) := by decide +kernel
theorem dX7_layNearest_26 : decode cX7_layNearest 26 = .ok (.istore 6, 2) := by decide +kernel
theorem dX7_layNearest_28 : decode cX7_layNearest 28 = .ok (.iload 6, 2) := by decide +kernel
theorem dX7_layNearest_30 : decode cX7_layNearest 30 = .ok (.aload_n 0, 1) := by decide +kernel
theorem dX7_layNearest_31 : decode cX7_layNearest 31 = .ok (.getfield 19, 3) := by decide +kernel
theorem dX7_layNearest_34 : decode cX7_layNearest 34 = .ok (.iconst 1, 1) := by decide +kernel
theorem dX7_layNearest_35 : decode cX7_layNearest 35 = .ok (.iaload, 1) := by decide +kernel
theorem dX7_layNearest_36 : decode cX7_layNearest 36 = .ok (.if_icmp .ge 51, 3) := by decide +kernel
theorem dX7_layNearest_39 : decode cX7_layNearest 39 = .ok (.aload_n 0, 1) := by decide +kernel
theorem dX7_layNearest_40 : decode cX7_layNearest 40 = .ok (.iload 5, 2) := by decide +kernel
theorem dX7_layNearest_42 : decode cX7_layNearest 42 = .ok (.iload 6, 2) := by decide +kernel
theorem dX7_layNearest_44 : decode cX7_layNearest 44 = .ok (.iload_n 1, 1) := by decide +kernel
theorem dX7_layNearest_45 : decode cX7_layNearest 45 = .ok (.invokevirtual 88, 3) := by decide +kernel
theorem dX7_layNearest_48 : decode cX7_layNearest 48 = .ok (.ifCond .eq 33, 3) := by decide +kernel
theorem dX7_layNearest_51 : decode cX7_layNearest 51 = .ok (.iload_n 3, 1) := by decide +kernel
theorem dX7_layNearest_52 : decode cX7_layNearest 52 = .ok (.iconst (-1), 1) := by decide +kernel
theorem dX7_layNearest_53 : decode cX7_layNearest 53 = .ok (.if_icmp .eq 21, 3) := by decide +kernel
theorem dX7_layNearest_56 : decode cX7_layNearest 56 = .ok (.aload_n 0, 1) := by decide +kernel
theorem dX7_layNearest_57 : decode cX7_layNearest 57 = .ok (.iload 5, 2) := by decide +kernel
theorem dX7_layNearest_59 : decode cX7_layNearest 59 = .ok (.iload 6, 2) := by decide +kernel
theorem dX7_layNearest_61 : decode cX7_layNearest 61 = .ok (.invokevirtual 84, 3) := by decide +kernel
theorem dX7_layNearest_64 : decode cX7_layNearest 64 = .ok (.aload_n 0, 1) := by decide +kernel
theorem dX7_layNearest_65 : decode cX7_layNearest 65 = .ok (.iload_n 3, 1) := by decide +kernel
theorem dX7_layNearest_66 : decode cX7_layNearest 66 = .ok (.iload 4, 2) := by decide +kernel
theorem dX7_layNearest_68 : decode cX7_layNearest 68 = .ok (.invokevirtual 84, 3) := by decide +kernel
theorem dX7_layNearest_71 : decode cX7_layNearest 71 = .ok (.if_icmp .ge 10, 3) := by decide +kernel
theorem dX7_layNearest_74 : decode cX7_layNearest 74 = .ok (.iload 5, 2) := by decide +kernel
theorem dX7_layNearest_76 : decode cX7_layNearest 76 = .ok (.istore_n 3, 1) := by decide +kernel
theorem dX7_layNearest_77 : decode cX7_layNearest 77 = .ok (.iload 6, 2) := by decide +kernel
theorem dX7_layNearest_79 : decode cX7_layNearest 79 = .ok (.istore 4, 2) := by decide +kernel
theorem dX7_layNearest_81 : decode cX7_layNearest 81 = .ok (.iinc 6 1, 3) := by decide +kernel
theorem dX7_layNearest_84 : decode cX7_layNearest 84 = .ok (.goto (-56), 3) := by decide +kernel
theorem dX7_layNearest_87 : decode cX7_layNearest 87 = .ok (.iinc 5 1, 3) := by decide +kernel
theorem dX7_layNearest_90 : decode cX7_layNearest 90 = .ok (.goto (-76), 3) := by decide +kernel
theorem dX7_layNearest_93 : decode cX7_layNearest 93 = .ok (.iload_n 3, 1) := by decide +kernel
theorem dX7_layNearest_94 : decode cX7_layNearest 94 = .ok (.iconst (-1), 1) := by decide +kernel
theorem dX7_layNearest_95 : decode cX7_layNearest 95 = .ok (.if_icmp .eq 7, 3) := by decide +kernel
theorem dX7_layNearest_98 : decode cX7_layNearest 98 = .ok (.iconst 1, 1) := by decide +kernel
theorem dX7_layNearest_99 : decode cX7_layNearest 99 = .ok (.goto 4, 3) := by decide +kernel
theorem dX7_layNearest_102 : decode cX7_layNearest 102 = .ok (.iconst 0, 1) := by decide +kernel
theorem dX7_layNearest_103 : decode cX7_layNearest 103 = .ok (.istore_n 2, 1) := by decide +kernel
theorem dX7_layNearest_104 : decode cX7_layNearest 104 = .ok (.iload_n 2, 1) := by decide +kernel
theorem dX7_layNearest_105 : decode cX7_layNearest 105 = .ok (.ifCond .eq 11, 3) := by decide +kernel
theorem dX7_layNearest_108 : decode cX7_layNearest 108 = .ok (.aload_n 0, 1) := by decide +kernel
theorem dX7_layNearest_109 : decode cX7_layNearest 109 = .ok (.iload_n 3, 1) := by decide +kernel
theorem dX7_layNearest_110 : decode cX7_layNearest 110 = .ok (.iload 4, 2) := by decide +kernel
theorem dX7_layNearest_112 : decode cX7_layNearest 112 = .ok (.iload_n 1, 1) := by decide +kernel
theorem dX7_layNearest_113 : decode cX7_layNearest 113 = .ok (.invokevirtual 80, 3) := by decide +kernel
theorem dX7_layNearest_116 : decode cX7_layNearest 116 = .ok (.goto (-114), 3) := by decide +kernel
theorem dX7_layNearest_119 : decode cX7_layNearest 119 = .ok (.return_, 1) := by decide +kernel
theorem pd_X7_layNearest : (parseMethodDescriptor yX7_layNearest.desc).map (fun d => d.parameters.length) = some 1 := by decide +kernel
def w_X7_layNearest (zz : Nat → Nat) (a0 : Nat) (a1 : Int) (h : AH) (Q : AH → Prop) : Prop := ∃ I_2 : Nat → Int → AH → Prop, (∃ n, I_2 n (1 : Int) h) ∧ ∀ (n_2 : Nat) (x2_2 : Int) (h_2 : AH), I_2 n_2 x2_2 h_2 → (((x2_2 = 0) → Q h_2) ∧ ((¬ (x2_2 = 0)) → ∃ I_14 : Nat → Int → Int → Int → AH → Prop, (∃ n, I_14 n (-1 : Int) (-1 : Int) (0 : Int) h_2) ∧ ∀ (n_14 : Nat) (x3_14 : Int) (x4_14 : Int) (x5_14 : Int) (h_14 : AH), I_14 n_14 x3_14 x4_14 x5_14 h_14 → (okA h_14 a0 7 ∧ ∃ b17 : Nat, hfR h_14 a0 6 = some b17 ∧ okI h_14 b17 (0 : Int) ∧ (((haI h_14 b17 (0 : Int)) ≤ x5_14) → jn (fun (t0_103 : Int) (h_103 : AH) => jn (fun  (h_116 : AH) => ∃ m, m < n_2 ∧ I_2 m t0_103 h_116) (fun k_116 : AH → Prop => ((t0_103 = 0) → k_116  h_103) ∧ ((¬ (t0_103 = 0)) → okA h_103 a0 7 ∧ w_X7_pair zz a0 x3_14 x4_14 a1 h_103 (fun  (h113 : AH) => k_116  h113)))) (fun k_103 : Int → AH → Prop => ((x3_14 = (-1 : Int)) → k_103 (0 : Int) h_14) ∧ ((¬ (x3_14 = (-1 : Int))) → k_103 (1 : Int) h_14))) ∧ ((¬ ((haI h_14 b17 (0 : Int)) ≤ x5_14)) → ∃ I_28 : Nat → Int → Int → Int → AH → Prop, (∃ n, I_28 n x3_14 x4_14 (0 : Int) h_14) ∧ ∀ (n_28 : Nat) (x3_28 : Int) (x4_28 : Int) (x6_28 : Int) (h_28 : AH), I_28 n_28 x3_28 x4_28 x6_28 h_28 → (okA h_28 a0 7 ∧ ∃ b31 : Nat, hfR h_28 a0 6 = some b31 ∧ okI h_28 b31 (1 : Int) ∧ (((haI h_28 b31 (1 : Int)) ≤ x6_28) → inR (x5_14 + 1) ∧ ∀ x5_87 : Int, x5_87 = (x5_14 + 1) → ∃ m, m < n_14 ∧ I_14 m x3_28 x4_28 x5_87 h_28) ∧ ((¬ ((haI h_28 b31 (1 : Int)) ≤ x6_28)) → okA h_28 a0 7 ∧ w_X7_canPair zz a0 x5_14 x6_28 a1 h_28 (fun (r45 : Int) (h45 : AH) => jn (fun (x3_81 : Int) (x4_81 : Int) (h_81 : AH) => inR (x6_28 + 1) ∧ ∀ x6_81 : Int, x6_81 = (x6_28 + 1) → ∃ m, m < n_28 ∧ I_28 m x3_81 x4_81 x6_81 h_81) (fun k_81 : Int → Int → AH → Prop => ((r45 = 0) → k_81 x3_28 x4_28 h45) ∧ ((¬ (r45 = 0)) → jn (fun  (h_74 : AH) => k_81 x5_14 x6_28 h_74) (fun k_74 : AH → Prop => ((x3_28 = (-1 : Int)) → k_74  h45) ∧ ((¬ (x3_28 = (-1 : Int))) → okA h45 a0 7 ∧ w_X7_distance zz a0 x5_14 x6_28 h45 (fun (r61 : Int) (h61 : AH) => okA h61 a0 7 ∧ w_X7_distance zz a0 x3_28 x4_28 h61 (fun (r68 : Int) (h68 : AH) => ((r68 ≤ r61) → k_81 x3_28 x4_28 h68) ∧ ((¬ (r68 ≤ r61)) → k_74  h68))))))))))))))
set_option maxRecDepth 100000 in
set_option maxHeartbeats 4000000 in
theorem met_X7_layNearest (G : GG) (l : Launch) : ∀ (As : List Value) (a0 : Nat) (a1 : Int) (h : AH) (Q : AH → Prop), As.map ab = List.map some ([vR a0, vI a1] : List AV) → w_X7_layNearest G.2.2 a0 a1 h Q → Met l yX7_layNearest (.code yX7_layNearest cX7_layNearest 7 none :: xTb) ({ frames := 3, cells := 0, slots := 0, locals := 71 } : Room) (PcA G As h) (QG G (oV Q)) 0 0 (frA G) := by
  intro As a0 a1 h Q hA hw
  refine met_of hA (by decide) (Nat.le_of_ble_eq_true rfl) (fun p e s m args below meth c C hml hr hnm => ?_)
  unfold w_X7_layNearest at hw
  refine aw_iconst (pc := 0) C dX7_layNearest_0 (i := (1 : Int)) (by decide) ?_
  refine aw_istore_n (pc := 1) C dX7_layNearest_1 rfl (by rw [hml]; decide) ?_
  obtain ⟨I_2, ⟨n9, hi9⟩, hst9⟩ := hw
  have L_2 : ∀ (n_2 : Nat) (x2_2 : Int) (h_2 : AH), I_2 n_2 x2_2 h_2 → AW G p l e ({ frames := 3, cells := 0, slots := 0, locals := 71 } : Room) s m args below meth c 0 0 (MQ below (QG G (oV Q)) args s 0 0 (frA G)) 2 (eOf [(0, vR a0), (1, vI a1), (2, vI x2_2)]) [] h_2 := by
    intro n_2
    induction n_2 using Nat.strongRecOn with
    | _ n_2 ih_2 =>
    intro x2_2 h_2 hi9
    have hw := hst9 n_2 x2_2 h_2 hi9
    refine aw_iload_n (pc := 2) C dX7_layNearest_2 rfl rfl ?_
    refine aw_if_eq (pc := 3) (tgt := 119) C dX7_layNearest_3 (by decide) (fun hc9 => ?_) (fun hc9 => ?_)
    · have hw := hw.1 hc9
      exact aw_vret (pc := 119) C hr dX7_layNearest_119 ⟨Nat.le_of_ble_eq_true rfl, Nat.le_of_ble_eq_true rfl⟩ ⟨rfl, hw⟩
    · have hw := hw.2 hc9
      refine aw_iconst (pc := 6) C dX7_layNearest_6 (i := (-1 : Int)) (by decide) ?_
      refine aw_istore_n (pc := 7) C dX7_layNearest_7 rfl (by rw [hml]; decide) ?_
      refine aw_iconst (pc := 8) C dX7_layNearest_8 (i := (-1 : Int)) (by decide) ?_
      refine aw_istore (pc := 9) C dX7_layNearest_9 (by rw [hml]; decide) ?_
      refine aw_iconst (pc := 11) C dX7_layNearest_11 (i := (0 : Int)) (by decide) ?_
      refine aw_istore (pc := 12) C dX7_layNearest_12 (by rw [hml]; decide) ?_
      obtain ⟨I_14, ⟨n9, hi9⟩, hst9⟩ := hw
      have L_14 : ∀ (n_14 : Nat) (x3_14 : Int) (x4_14 : Int) (x5_14 : Int) (h_14 : AH), I_14 n_14 x3_14 x4_14 x5_14 h_14 → AW G p l e ({ frames := 3, cells := 0, slots := 0, locals := 71 } : Room) s m args below meth c 0 0 (MQ below (QG G (oV Q)) args s 0 0 (frA G)) 14 (eOf [(0, vR a0), (1, vI a1), (3, vI x3_14), (4, vI x4_14), (5, vI x5_14)]) [] h_14 := by
        intro n_14
        induction n_14 using Nat.strongRecOn with
        | _ n_14 ih_14 =>
        intro x3_14 x4_14 x5_14 h_14 hi9
        have hw := hst9 n_14 x3_14 x4_14 x5_14 h_14 hi9
        refine aw_iload (pc := 14) C dX7_layNearest_14 rfl ?_
        refine aw_aload_n (pc := 16) C dX7_layNearest_16 rfl rfl ?_
        obtain ⟨hp9, b17, hb9, hw⟩ := hw
        refine aw_getR (pc := 17) C (ci := 7) (k := 6) ci7 (by decide) tw798 dX7_layNearest_17 rfl hp9 hb9 ?_
        refine aw_iconst (pc := 20) C dX7_layNearest_20 (i := (0 : Int)) (by decide) ?_
        obtain ⟨⟨k9, hp9⟩, hw⟩ := hw
        refine aw_iald (pc := 21) C dX7_layNearest_21 hp9 ?_
        refine aw_icmp_ge (pc := 22) (tgt := 93) C dX7_layNearest_22 (by decide) (fun hc9 => ?_) (fun hc9 => ?_)
        · have hw := hw.1 hc9
          refine aw_iload_n (pc := 93) C dX7_layNearest_93 rfl rfl ?_
          refine aw_iconst (pc := 94) C dX7_layNearest_94 (i := (-1 : Int)) (by decide) ?_
          obtain ⟨k_103, hk_103, hw⟩ := jn_out hw
          have J_103 : ∀ (t0_103 : Int) (h_103 : AH), k_103 t0_103 h_103 → AW G p l e ({ frames := 3, cells := 0, slots := 0, locals := 71 } : Room) s m args below meth c 0 0 (MQ below (QG G (oV Q)) args s 0 0 (frA G)) 103 (eOf [(0, vR a0), (1, vI a1), (3, vI x3_14), (4, vI x4_14)]) [vI t0_103] h_103 := by
            intro t0_103 h_103 hw
            rw [hk_103] at hw
            refine aw_istore_n (pc := 103) C dX7_layNearest_103 rfl (by rw [hml]; decide) ?_
            refine aw_iload_n (pc := 104) C dX7_layNearest_104 rfl rfl ?_
            obtain ⟨k_116, hk_116, hw⟩ := jn_out hw
            have J_116 : ∀  (h_116 : AH), k_116  h_116 → AW G p l e ({ frames := 3, cells := 0, slots := 0, locals := 71 } : Room) s m args below meth c 0 0 (MQ below (QG G (oV Q)) args s 0 0 (frA G)) 116 (eOf [(0, vR a0), (1, vI a1), (2, vI t0_103)]) [] h_116 := by
              intro  h_116 hw
              rw [hk_116] at hw
              refine aw_goto (pc := 116) (tgt := 2) C dX7_layNearest_116 (by decide) ?_
              obtain ⟨m9, hm9, hw⟩ := hw
              refine aw_sub [(0, vR a0), (1, vI a1), (2, vI t0_103)] ⟨rfl, rfl, rfl, trivial⟩ ?_
              exact ih_2 m9 hm9 _ _ hw
            refine aw_if_eq (pc := 105) (tgt := 116) C dX7_layNearest_105 (by decide) (fun hc9 => ?_) (fun hc9 => ?_)
            · have hw := hw.1 hc9
              refine aw_sub [(0, vR a0), (1, vI a1), (2, vI t0_103)] ⟨rfl, rfl, rfl, trivial⟩ ?_
              exact J_116  _ hw
            · have hw := hw.2 hc9
              refine aw_aload_n (pc := 108) C dX7_layNearest_108 rfl rfl ?_
              refine aw_iload_n (pc := 109) C dX7_layNearest_109 rfl rfl ?_
              refine aw_iload (pc := 110) C dX7_layNearest_110 rfl ?_
              refine aw_iload_n (pc := 112) C dX7_layNearest_112 rfl rfl ?_
              obtain ⟨hp9, hw⟩ := hw
              refine aw_callV (pc := 113) (as := [vI x3_14, vI x4_14, vI a1]) C ci7 (fun As hA => met_X7_pair G l As a0 x3_14 x4_14 a1 _ _ hA hw) tw926 tw928 (tbp 42 (n := 21) (by decide +kernel)) tw10 tw929 ⟨rfl, rfl⟩ ⟨rfl, by decide, by decide, pd_X7_pair⟩ ⟨Nat.le_of_ble_eq_true rfl, Nat.le_of_ble_eq_true rfl⟩ ⟨Nat.zero_le _, Nat.zero_le _⟩ (Nat.le_of_ble_eq_true rfl) dX7_layNearest_113 rfl hp9 (fun v9 h113 hq9 => ?_)
              obtain ⟨rfl, hw⟩ := hq9
              refine aw_sub [(0, vR a0), (1, vI a1), (2, vI t0_103)] ⟨rfl, rfl, rfl, trivial⟩ ?_
              exact J_116  _ hw
          refine aw_icmp_eq (pc := 95) (tgt := 102) C dX7_layNearest_95 (by decide) (fun hc9 => ?_) (fun hc9 => ?_)
          · have hw := hw.1 hc9
            refine aw_iconst (pc := 102) C dX7_layNearest_102 (i := (0 : Int)) (by decide) ?_
            refine aw_sub [(0, vR a0), (1, vI a1), (3, vI x3_14), (4, vI x4_14)] ⟨rfl, rfl, rfl, rfl, trivial⟩ ?_
            exact J_103 _ _ hw
          · have hw := hw.2 hc9
            refine aw_iconst (pc := 98) C dX7_layNearest_98 (i := (1 : Int)) (by decide) ?_
            refine aw_goto (pc := 99) (tgt := 103) C dX7_layNearest_99 (by decide) ?_
            refine aw_sub [(0, vR a0), (1, vI a1), (3, vI x3_14), (4, vI x4_14)] ⟨rfl, rfl, rfl, rfl, trivial⟩ ?_
            exact J_103 _ _ hw
        · have hw := hw.2 hc9
          refine aw_iconst (pc := 25) C dX7_layNearest_25 (i := (0 : Int)) (by decide) ?_
          refine aw_istore (pc := 26) C dX7_layNearest_26 (by rw [hml]; decide) ?_
          obtain ⟨I_28, ⟨n9, hi9⟩, hst9⟩ := hw
          have L_28 : ∀ (n_28 : Nat) (x3_28 : Int) (x4_28 : Int) (x6_28 : Int) (h_28 : AH), I_28 n_28 x3_28 x4_28 x6_28 h_28 → AW G p l e ({ frames := 3, cells := 0, slots := 0, locals := 71 } : Room) s m args below meth c 0 0 (MQ below (QG G (oV Q)) args s 0 0 (frA G)) 28 (eOf [(0, vR a0), (1, vI a1), (3, vI x3_28), (4, vI x4_28), (5, vI x5_14), (6, vI x6_28)]) [] h_28 := by
            intro n_28
            induction n_28 using Nat.strongRecOn with
            | _ n_28 ih_28 =>
            intro x3_28 x4_28 x6_28 h_28 hi9
            have hw := hst9 n_28 x3_28 x4_28 x6_28 h_28 hi9
            refine aw_iload (pc := 28) C dX7_layNearest_28 rfl ?_
            refine aw_aload_n (pc := 30) C dX7_layNearest_30 rfl rfl ?_
            obtain ⟨hp9, b31, hb9, hw⟩ := hw
            refine aw_getR (pc := 31) C (ci := 7) (k := 6) ci7 (by decide) tw798 dX7_layNearest_31 rfl hp9 hb9 ?_
            refine aw_iconst (pc := 34) C dX7_layNearest_34 (i := (1 : Int)) (by decide) ?_
            obtain ⟨⟨k9, hp9⟩, hw⟩ := hw
            refine aw_iald (pc := 35) C dX7_layNearest_35 hp9 ?_
            refine aw_icmp_ge (pc := 36) (tgt := 87) C dX7_layNearest_36 (by decide) (fun hc9 => ?_) (fun hc9 => ?_)
            · have hw := hw.1 hc9
              obtain ⟨hp9, hw⟩ := hw
              refine aw_iincN (pc := 87) C dX7_layNearest_87 (k := 1) (by decide) rfl (by rw [hml]; decide) hp9 (fun x5_87 e9 => ?_)
              have hw := hw x5_87 e9
              refine aw_goto (pc := 90) (tgt := 14) C dX7_layNearest_90 (by decide) ?_
              obtain ⟨m9, hm9, hw⟩ := hw
              refine aw_sub [(0, vR a0), (1, vI a1), (3, vI x3_28), (4, vI x4_28), (5, vI x5_87)] ⟨rfl, rfl, rfl, rfl, rfl, trivial⟩ ?_
              exact ih_14 m9 hm9 _ _ _ _ hw
            · have hw := hw.2 hc9
              refine aw_aload_n (pc := 39) C dX7_layNearest_39 rfl rfl ?_
              refine aw_iload (pc := 40) C dX7_layNearest_40 rfl ?_
              refine aw_iload (pc := 42) C dX7_layNearest_42 rfl ?_
              refine aw_iload_n (pc := 44) C dX7_layNearest_44 rfl rfl ?_
              obtain ⟨hp9, hw⟩ := hw
              refine aw_callV (pc := 45) (as := [vI x5_14, vI x6_28, vI a1]) C ci7 (fun As hA => met_X7_canPair G l As a0 x5_14 x6_28 a1 _ _ hA hw) tw934 tw936 (tbp 44 (n := 21) (by decide +kernel)) tw10 tw937 ⟨rfl, rfl⟩ ⟨rfl, by decide, by decide, pd_X7_canPair⟩ ⟨Nat.le_of_ble_eq_true rfl, Nat.le_of_ble_eq_true rfl⟩ ⟨Nat.zero_le _, Nat.zero_le _⟩ (Nat.le_of_ble_eq_true rfl) dX7_layNearest_45 rfl hp9 (fun v9 h45 hq9 => ?_)
              obtain ⟨r45, rfl, hw⟩ := hq9
              obtain ⟨k_81, hk_81, hw⟩ := jn_out hw
              have J_81 : ∀ (x3_81 : Int) (x4_81 : Int) (h_81 : AH), k_81 x3_81 x4_81 h_81 → AW G p l e ({ frames := 3, cells := 0, slots := 0, locals := 71 } : Room) s m args below meth c 0 0 (MQ below (QG G (oV Q)) args s 0 0 (frA G)) 81 (eOf [(0, vR a0), (1, vI a1), (3, vI x3_81), (4, vI x4_81), (5, vI x5_14), (6, vI x6_28)]) [] h_81 := by
                intro x3_81 x4_81 h_81 hw
                rw [hk_81] at hw
                obtain ⟨hp9, hw⟩ := hw
                refine aw_iincN (pc := 81) C dX7_layNearest_81 (k := 1) (by decide) rfl (by rw [hml]; decide) hp9 (fun x6_81 e9 => ?_)
                have hw := hw x6_81 e9
                refine aw_goto (pc := 84) (tgt := 28) C dX7_layNearest_84 (by decide) ?_
                obtain ⟨m9, hm9, hw⟩ := hw
                refine aw_sub [(0, vR a0), (1, vI a1), (3, vI x3_81), (4, vI x4_81), (5, vI x5_14), (6, vI x6_81)] ⟨rfl, rfl, rfl, rfl, rfl, rfl, trivial⟩ ?_
                exact ih_28 m9 hm9 _ _ _ _ hw
              refine aw_if_eq (pc := 48) (tgt := 81) C dX7_layNearest_48 (by decide) (fun hc9 => ?_) (fun hc9 => ?_)
              · have hw := hw.1 hc9
                refine aw_sub [(0, vR a0), (1, vI a1), (3, vI x3_28), (4, vI x4_28), (5, vI x5_14), (6, vI x6_28)] ⟨rfl, rfl, rfl, rfl, rfl, rfl, trivial⟩ ?_
                exact J_81 _ _ _ hw
              · have hw := hw.2 hc9
                refine aw_iload_n (pc := 51) C dX7_layNearest_51 rfl rfl ?_
                refine aw_iconst (pc := 52) C dX7_layNearest_52 (i := (-1 : Int)) (by decide) ?_
                obtain ⟨k_74, hk_74, hw⟩ := jn_out hw
                have J_74 : ∀  (h_74 : AH), k_74  h_74 → AW G p l e ({ frames := 3, cells := 0, slots := 0, locals := 71 } : Room) s m args below meth c 0 0 (MQ below (QG G (oV Q)) args s 0 0 (frA G)) 74 (eOf [(0, vR a0), (1, vI a1), (5, vI x5_14), (6, vI x6_28)]) [] h_74 := by
                  intro  h_74 hw
                  rw [hk_74] at hw
                  refine aw_iload (pc := 74) C dX7_layNearest_74 rfl ?_
                  refine aw_istore_n (pc := 76) C dX7_layNearest_76 rfl (by rw [hml]; decide) ?_
                  refine aw_iload (pc := 77) C dX7_layNearest_77 rfl ?_
                  refine aw_istore (pc := 79) C dX7_layNearest_79 (by rw [hml]; decide) ?_
                  refine aw_sub [(0, vR a0), (1, vI a1), (3, vI x5_14), (4, vI x6_28), (5, vI x5_14), (6, vI x6_28)] ⟨rfl, rfl, rfl, rfl, rfl, rfl, trivial⟩ ?_
                  exact J_81 _ _ _ hw
                refine aw_icmp_eq (pc := 53) (tgt := 74) C dX7_layNearest_53 (by decide) (fun hc9 => ?_) (fun hc9 => ?_)
                · have hw := hw.1 hc9
                  refine aw_sub [(0, vR a0), (1, vI a1), (5, vI x5_14), (6, vI x6_28)] ⟨rfl, rfl, rfl, rfl, trivial⟩ ?_
                  exact J_74  _ hw
                · have hw := hw.2 hc9
                  refine aw_aload_n (pc := 56) C dX7_layNearest_56 rfl rfl ?_
                  refine aw_iload (pc := 57) C dX7_layNearest_57 rfl ?_
                  refine aw_iload (pc := 59) C dX7_layNearest_59 rfl ?_
                  obtain ⟨hp9, hw⟩ := hw
                  refine aw_callV (pc := 61) (as := [vI x5_14, vI x6_28]) C ci7 (fun As hA => met_X7_distance G l As a0 x5_14 x6_28 _ _ hA hw) tw938 tw940 (tbp 45 (n := 21) (by decide +kernel)) tw10 tw941 ⟨rfl, rfl⟩ ⟨rfl, by decide, by decide, pd_X7_distance⟩ ⟨Nat.le_of_ble_eq_true rfl, Nat.le_of_ble_eq_true rfl⟩ ⟨Nat.zero_le _, Nat.zero_le _⟩ (Nat.le_of_ble_eq_true rfl) dX7_layNearest_61 rfl hp9 (fun v9 h61 hq9 => ?_)
                  obtain ⟨r61, rfl, hw⟩ := hq9
                  refine aw_aload_n (pc := 64) C dX7_layNearest_64 rfl rfl ?_
                  refine aw_iload_n (pc := 65) C dX7_layNearest_65 rfl rfl ?_
                  refine aw_iload (pc := 66) C dX7_layNearest_66 rfl ?_
                  obtain ⟨hp9, hw⟩ := hw
                  refine aw_callV (pc := 68) (as := [vI x3_28, vI x4_28]) C ci7 (fun As hA => met_X7_distance G l As a0 x3_28 x4_28 _ _ hA hw) tw938 tw940 (tbp 45 (n := 21) (by decide +kernel)) tw10 tw941 ⟨rfl, rfl⟩ ⟨rfl, by decide, by decide, pd_X7_distance⟩ ⟨Nat.le_of_ble_eq_true rfl, Nat.le_of_ble_eq_true rfl⟩ ⟨Nat.zero_le _, Nat.zero_le _⟩ (Nat.le_of_ble_eq_true rfl) dX7_layNearest_68 rfl hp9 (fun v9 h68 hq9 => ?_)
                  obtain ⟨r68, rfl, hw⟩ := hq9
                  refine aw_icmp_ge (pc := 71) (tgt := 81) C dX7_layNearest_71 (by decide) (fun hc9 => ?_) (fun hc9 => ?_)
                  · have hw := hw.1 hc9
                    refine aw_sub [(0, vR a0), (1, vI a1), (3, vI x3_28), (4, vI x4_28), (5, vI x5_14), (6, vI x6_28)] ⟨rfl, rfl, rfl, rfl, rfl, rfl, trivial⟩ ?_
                    exact J_81 _ _ _ hw
                  · have hw := hw.2 hc9
                    refine aw_sub [(0, vR a0), (1, vI a1), (5, vI x5_14), (6, vI x6_28)] ⟨rfl, rfl, rfl, rfl, trivial⟩ ?_
                    exact J_74  _ hw
          refine aw_sub [(0, vR a0), (1, vI a1), (3, vI x3_14), (4, vI x4_14), (5, vI x5_14), (6, vI (0 : Int))] ⟨rfl, rfl, rfl, rfl, rfl, rfl, trivial⟩ ?_
          exact L_28 n9 _ _ _ _ hi9
      refine aw_sub [(0, vR a0), (1, vI a1), (3, vI (-1 : Int)), (4, vI (-1 : Int)), (5, vI (0 : Int))] ⟨rfl, rfl, rfl, rfl, rfl, trivial⟩ ?_
      exact L_14 n9 _ _ _ _ hi9
  refine aw_sub [(0, vR a0), (1, vI a1), (2, vI (1 : Int))] ⟨rfl, rfl, rfl, trivial⟩ ?_
  exact L_2 n9 _ _ hi9
theorem dX7_within_0 : decode cX7_within 0 = .ok (.iload_n 0, 1) := by decide +kernel
theorem dX7_within_1 : decode cX7_within 1 = .ok (.iload_n 1, 1) := by decide +kernel
theorem dX7_within_2 : decode cX7_within 2 = .ok (.if_icmp .lt 12, 3) := by decide +kernel
theorem dX7_within_5 : decode cX7_within 5 = .ok (.iload_n 0, 1) := by decide +kernel
theorem dX7_within_6 : decode cX7_within 6 = .ok (.iload_n 2, 1) := by decide +kernel
theorem dX7_within_7 : decode cX7_within 7 = .ok (.if_icmp .gt 7, 3) := by decide +kernel
theorem dX7_within_10 : decode cX7_within 10 = .ok (.iconst 1, 1) := by decide +kernel
theorem dX7_within_11 : decode cX7_within 11 = .ok (.goto 4, 3) := by decide +kernel
theorem dX7_within_14 : decode cX7_within 14 = .ok (.iconst 0, 1) := by decide +kernel
theorem dX7_within_15 : decode cX7_within 15 = .ok (.ireturn, 1) := by decide +kernel
theorem pd_X7_within : (parseMethodDescriptor yX7_within.desc).map (fun d => d.parameters.length) = some 3 := by decide +kernel
def w_X7_within (zz : Nat → Nat) (a0 : Int) (a1 : Int) (a2 : Int) (h : AH) (Q : Int → AH → Prop) : Prop := jn (fun (t0_15 : Int) (h_15 : AH) => (t0_15 = 0 ∨ t0_15 = 1) ∧ Q t0_15 h_15) (fun k_15 : Int → AH → Prop => jn (fun  (h_14 : AH) => k_15 (0 : Int) h_14) (fun k_14 : AH → Prop => ((a0 < a1) → k_14  h) ∧ ((¬ (a0 < a1)) → ((a2 < a0) → k_14  h) ∧ ((¬ (a2 < a0)) → k_15 (1 : Int) h))))
set_option maxRecDepth 100000 in
set_option maxHeartbeats 4000000 in
theorem met_X7_within (G : GG) (l : Launch) : ∀ (As : List Value) (a0 : Int) (a1 : Int) (a2 : Int) (h : AH) (Q : Int → AH → Prop), As.map ab = List.map some ([vI a0, vI a1, vI a2] : List AV) → w_X7_within G.2.2 a0 a1 a2 h Q → Met l yX7_within (.code yX7_within cX7_within 3 (some .boolean) :: xTb) ({ frames := 0, cells := 0, slots := 0, locals := 0 } : Room) (PcA G As h) (QG G (oI Q)) 0 0 (frA G) := by
  intro As a0 a1 a2 h Q hA hw
  refine met_of hA (by decide) (Nat.le_of_ble_eq_true rfl) (fun p e s m args below meth c C hml hr hnm => ?_)
  unfold w_X7_within at hw
  refine aw_iload_n (pc := 0) C dX7_within_0 rfl rfl ?_
  refine aw_iload_n (pc := 1) C dX7_within_1 rfl rfl ?_
  obtain ⟨k_15, hk_15, hw⟩ := jn_out hw
  have J_15 : ∀ (t0_15 : Int) (h_15 : AH), k_15 t0_15 h_15 → AW G p l e ({ frames := 0, cells := 0, slots := 0, locals := 0 } : Room) s m args below meth c 0 0 (MQ below (QG G (oI Q)) args s 0 0 (frA G)) 15 (eOf []) [vI t0_15] h_15 := by
    intro t0_15 h_15 hw
    rw [hk_15] at hw
    obtain ⟨hp9, hw⟩ := hw
    exact aw_zret (pc := 15) C hr dX7_within_15 ⟨Nat.le_of_ble_eq_true rfl, Nat.le_of_ble_eq_true rfl⟩ hp9 ⟨_, rfl, hw⟩
  obtain ⟨k_14, hk_14, hw⟩ := jn_out hw
  have J_14 : ∀  (h_14 : AH), k_14  h_14 → AW G p l e ({ frames := 0, cells := 0, slots := 0, locals := 0 } : Room) s m args below meth c 0 0 (MQ below (QG G (oI Q)) args s 0 0 (frA G)) 14 (eOf []) [] h_14 := by
    intro  h_14 hw
    rw [hk_14] at hw
    refine aw_iconst (pc := 14) C dX7_within_14 (i := (0 : Int)) (by decide) ?_
    refine aw_sub [] trivial ?_
    exact J_15 _ _ hw
  refine aw_icmp_lt (pc := 2) (tgt := 14) C dX7_within_2 (by decide) (fun hc9 => ?_) (fun hc9 => ?_)
  · have hw := hw.1 hc9
    refine aw_sub [] trivial ?_
    exact J_14  _ hw
  · have hw := hw.2 hc9
    refine aw_iload_n (pc := 5) C dX7_within_5 rfl rfl ?_
    refine aw_iload_n (pc := 6) C dX7_within_6 rfl rfl ?_
    refine aw_icmp_gt (pc := 7) (tgt := 14) C dX7_within_7 (by decide) (fun hc9 => ?_) (fun hc9 => ?_)
    · have hw := hw.1 hc9
      refine aw_sub [] trivial ?_
      exact J_14  _ hw
    · have hw := hw.2 hc9
      refine aw_iconst (pc := 10) C dX7_within_10 (i := (1 : Int)) (by decide) ?_
      refine aw_goto (pc := 11) (tgt := 15) C dX7_within_11 (by decide) ?_
      refine aw_sub [] trivial ?_
      exact J_15 _ _ hw
theorem dX7_isValue_0 : decode cX7_isValue 0 = .ok (.iload_n 0, 1) := by decide +kernel
theorem dX7_isValue_1 : decode cX7_isValue 1 = .ok (.tableswitch 78 0 5 #[39, 47, 47, 56, 63, 70], 39) := by decide +kernel
theorem dX7_isValue_40 : decode cX7_isValue 40 = .ok (.iload_n 1, 1) := by decide +kernel
theorem dX7_isValue_41 : decode cX7_isValue 41 = .ok (.iconst 1, 1) := by decide +kernel
theorem dX7_isValue_42 : decode cX7_isValue 42 = .ok (.bipush 9, 2) := by decide +kernel
theorem dX7_isValue_44 : decode cX7_isValue 44 = .ok (.invokestatic 65, 3) := by decide +kernel
theorem dX7_isValue_47 : decode cX7_isValue 47 = .ok (.ireturn, 1) := by decide +kernel
theorem dX7_isValue_48 : decode cX7_isValue 48 = .ok (.iload_n 1, 1) := by decide +kernel
theorem dX7_isValue_49 : decode cX7_isValue 49 = .ok (.iconst 0, 1) := by decide +kernel
theorem dX7_isValue_50 : decode cX7_isValue 50 = .ok (.sipush 200, 3) := by decide +kernel
theorem dX7_isValue_53 : decode cX7_isValue 53 = .ok (.invokestatic 65, 3) := by decide +kernel
theorem dX7_isValue_56 : decode cX7_isValue 56 = .ok (.ireturn, 1) := by decide +kernel
theorem dX7_isValue_57 : decode cX7_isValue 57 = .ok (.iload_n 1, 1) := by decide +kernel
theorem dX7_isValue_58 : decode cX7_isValue 58 = .ok (.iconst 0, 1) := by decide +kernel
theorem dX7_isValue_59 : decode cX7_isValue 59 = .ok (.iconst 1, 1) := by decide +kernel
theorem dX7_isValue_60 : decode cX7_isValue 60 = .ok (.invokestatic 65, 3) := by decide +kernel
theorem dX7_isValue_63 : decode cX7_isValue 63 = .ok (.ireturn, 1) := by decide +kernel
theorem dX7_isValue_64 : decode cX7_isValue 64 = .ok (.iload_n 1, 1) := by decide +kernel
theorem dX7_isValue_65 : decode cX7_isValue 65 = .ok (.iconst 0, 1) := by decide +kernel
theorem dX7_isValue_66 : decode cX7_isValue 66 = .ok (.iconst 2, 1) := by decide +kernel
theorem dX7_isValue_67 : decode cX7_isValue 67 = .ok (.invokestatic 65, 3) := by decide +kernel
theorem dX7_isValue_70 : decode cX7_isValue 70 = .ok (.ireturn, 1) := by decide +kernel
theorem dX7_isValue_71 : decode cX7_isValue 71 = .ok (.iload_n 1, 1) := by decide +kernel
theorem dX7_isValue_72 : decode cX7_isValue 72 = .ok (.iconst 0, 1) := by decide +kernel
theorem dX7_isValue_73 : decode cX7_isValue 73 = .ok (.bipush 9, 2) := by decide +kernel
theorem dX7_isValue_75 : decode cX7_isValue 75 = .ok (.invokestatic 65, 3) := by decide +kernel
theorem dX7_isValue_78 : decode cX7_isValue 78 = .ok (.ireturn, 1) := by decide +kernel
theorem dX7_isValue_79 : decode cX7_isValue 79 = .ok (.iload_n 1, 1) := by decide +kernel
theorem dX7_isValue_80 : decode cX7_isValue 80 = .ok (.iconst 0, 1) := by decide +kernel
theorem dX7_isValue_81 : decode cX7_isValue 81 = .ok (.bipush 20, 2) := by decide +kernel
theorem dX7_isValue_83 : decode cX7_isValue 83 = .ok (.invokestatic 65, 3) := by decide +kernel
theorem dX7_isValue_86 : decode cX7_isValue 86 = .ok (.ireturn, 1) := by decide +kernel
theorem pd_X7_isValue : (parseMethodDescriptor yX7_isValue.desc).map (fun d => d.parameters.length) = some 2 := by decide +kernel
def w_X7_isValue (zz : Nat → Nat) (a0 : Int) (a1 : Int) (h : AH) (Q : Int → AH → Prop) : Prop := (a0 = 0 → w_X7_within zz a1 (1 : Int) (9 : Int) h (fun (r44 : Int) (h44 : AH) => (r44 = 0 ∨ r44 = 1) ∧ Q r44 h44)) ∧ (a0 = 1 → w_X7_within zz a1 (0 : Int) (200 : Int) h (fun (r53 : Int) (h53 : AH) => (r53 = 0 ∨ r53 = 1) ∧ Q r53 h53)) ∧ (a0 = 2 → w_X7_within zz a1 (0 : Int) (200 : Int) h (fun (r53 : Int) (h53 : AH) => (r53 = 0 ∨ r53 = 1) ∧ Q r53 h53)) ∧ (a0 = 3 → w_X7_within zz a1 (0 : Int) (1 : Int) h (fun (r60 : Int) (h60 : AH) => (r60 = 0 ∨ r60 = 1) ∧ Q r60 h60)) ∧ (a0 = 4 → w_X7_within zz a1 (0 : Int) (2 : Int) h (fun (r67 : Int) (h67 : AH) => (r67 = 0 ∨ r67 = 1) ∧ Q r67 h67)) ∧ (a0 = 5 → w_X7_within zz a1 (0 : Int) (9 : Int) h (fun (r75 : Int) (h75 : AH) => (r75 = 0 ∨ r75 = 1) ∧ Q r75 h75)) ∧ ((a0 < 0 ∨ 5 < a0) → w_X7_within zz a1 (0 : Int) (20 : Int) h (fun (r83 : Int) (h83 : AH) => (r83 = 0 ∨ r83 = 1) ∧ Q r83 h83))
set_option maxRecDepth 100000 in
set_option maxHeartbeats 4000000 in
theorem met_X7_isValue (G : GG) (l : Launch) : ∀ (As : List Value) (a0 : Int) (a1 : Int) (h : AH) (Q : Int → AH → Prop), As.map ab = List.map some ([vI a0, vI a1] : List AV) → w_X7_isValue G.2.2 a0 a1 h Q → Met l yX7_isValue (.code yX7_isValue cX7_isValue 2 (some .boolean) :: xTb) ({ frames := 1, cells := 0, slots := 0, locals := 22 } : Room) (PcA G As h) (QG G (oI Q)) 0 0 (frA G) := by
  intro As a0 a1 h Q hA hw
  refine met_of hA (by decide) (Nat.le_of_ble_eq_true rfl) (fun p e s m args below meth c C hml hr hnm => ?_)
  unfold w_X7_isValue at hw
  refine aw_iload_n (pc := 0) C dX7_isValue_0 rfl rfl ?_
  have hcs9 : a0 = 0 ∨ a0 = 1 ∨ a0 = 2 ∨ a0 = 3 ∨ a0 = 4 ∨ a0 = 5 ∨ (a0 < 0 ∨ 5 < a0) := by omega
  rcases hcs9 with hc9 | hc9 | hc9 | hc9 | hc9 | hc9 | hc9
  · have hw := hw.1 hc9
    refine aw_tableIn (pc := 1) (off := 39) (tgt := 40) C dX7_isValue_1 (by omega) (by omega) (by rw [hc9]; rfl) (by decide) ?_
    refine aw_iload_n (pc := 40) C dX7_isValue_40 rfl rfl ?_
    refine aw_iconst (pc := 41) C dX7_isValue_41 (i := (1 : Int)) (by decide) ?_
    refine aw_bipush (pc := 42) C dX7_isValue_42 (i := (9 : Int)) (by decide) ?_
    refine aw_callS (pc := 44) (as := [vI a1, vI (1 : Int), vI (9 : Int)]) C (fun As hA => met_X7_within G l As a1 (1 : Int) (9 : Int) _ _ hA hw) tw883 tw884 tw10 tw885 ⟨rfl, rfl⟩ ⟨by decide, by decide, pd_X7_within⟩ ⟨Nat.le_of_ble_eq_true rfl, Nat.le_of_ble_eq_true rfl⟩ ⟨Nat.zero_le _, Nat.zero_le _⟩ (Nat.le_of_ble_eq_true rfl) dX7_isValue_44 rfl (fun v9 h44 hq9 => ?_)
    obtain ⟨r44, rfl, hw⟩ := hq9
    obtain ⟨hp9, hw⟩ := hw
    exact aw_zret (pc := 47) C hr dX7_isValue_47 ⟨Nat.le_of_ble_eq_true rfl, Nat.le_of_ble_eq_true rfl⟩ hp9 ⟨_, rfl, hw⟩
  · have hw := hw.2.1 hc9
    refine aw_tableIn (pc := 1) (off := 47) (tgt := 48) C dX7_isValue_1 (by omega) (by omega) (by rw [hc9]; rfl) (by decide) ?_
    refine aw_iload_n (pc := 48) C dX7_isValue_48 rfl rfl ?_
    refine aw_iconst (pc := 49) C dX7_isValue_49 (i := (0 : Int)) (by decide) ?_
    refine aw_sipush (pc := 50) C dX7_isValue_50 (i := (200 : Int)) (by decide) ?_
    refine aw_callS (pc := 53) (as := [vI a1, vI (0 : Int), vI (200 : Int)]) C (fun As hA => met_X7_within G l As a1 (0 : Int) (200 : Int) _ _ hA hw) tw883 tw884 tw10 tw885 ⟨rfl, rfl⟩ ⟨by decide, by decide, pd_X7_within⟩ ⟨Nat.le_of_ble_eq_true rfl, Nat.le_of_ble_eq_true rfl⟩ ⟨Nat.zero_le _, Nat.zero_le _⟩ (Nat.le_of_ble_eq_true rfl) dX7_isValue_53 rfl (fun v9 h53 hq9 => ?_)
    obtain ⟨r53, rfl, hw⟩ := hq9
    obtain ⟨hp9, hw⟩ := hw
    exact aw_zret (pc := 56) C hr dX7_isValue_56 ⟨Nat.le_of_ble_eq_true rfl, Nat.le_of_ble_eq_true rfl⟩ hp9 ⟨_, rfl, hw⟩
  · have hw := hw.2.2.1 hc9
    refine aw_tableIn (pc := 1) (off := 47) (tgt := 48) C dX7_isValue_1 (by omega) (by omega) (by rw [hc9]; rfl) (by decide) ?_
    refine aw_iload_n (pc := 48) C dX7_isValue_48 rfl rfl ?_
    refine aw_iconst (pc := 49) C dX7_isValue_49 (i := (0 : Int)) (by decide) ?_
    refine aw_sipush (pc := 50) C dX7_isValue_50 (i := (200 : Int)) (by decide) ?_
    refine aw_callS (pc := 53) (as := [vI a1, vI (0 : Int), vI (200 : Int)]) C (fun As hA => met_X7_within G l As a1 (0 : Int) (200 : Int) _ _ hA hw) tw883 tw884 tw10 tw885 ⟨rfl, rfl⟩ ⟨by decide, by decide, pd_X7_within⟩ ⟨Nat.le_of_ble_eq_true rfl, Nat.le_of_ble_eq_true rfl⟩ ⟨Nat.zero_le _, Nat.zero_le _⟩ (Nat.le_of_ble_eq_true rfl) dX7_isValue_53 rfl (fun v9 h53 hq9 => ?_)
    obtain ⟨r53, rfl, hw⟩ := hq9
    obtain ⟨hp9, hw⟩ := hw
    exact aw_zret (pc := 56) C hr dX7_isValue_56 ⟨Nat.le_of_ble_eq_true rfl, Nat.le_of_ble_eq_true rfl⟩ hp9 ⟨_, rfl, hw⟩
  · have hw := hw.2.2.2.1 hc9
    refine aw_tableIn (pc := 1) (off := 56) (tgt := 57) C dX7_isValue_1 (by omega) (by omega) (by rw [hc9]; rfl) (by decide) ?_
    refine aw_iload_n (pc := 57) C dX7_isValue_57 rfl rfl ?_
    refine aw_iconst (pc := 58) C dX7_isValue_58 (i := (0 : Int)) (by decide) ?_
    refine aw_iconst (pc := 59) C dX7_isValue_59 (i := (1 : Int)) (by decide) ?_
    refine aw_callS (pc := 60) (as := [vI a1, vI (0 : Int), vI (1 : Int)]) C (fun As hA => met_X7_within G l As a1 (0 : Int) (1 : Int) _ _ hA hw) tw883 tw884 tw10 tw885 ⟨rfl, rfl⟩ ⟨by decide, by decide, pd_X7_within⟩ ⟨Nat.le_of_ble_eq_true rfl, Nat.le_of_ble_eq_true rfl⟩ ⟨Nat.zero_le _, Nat.zero_le _⟩ (Nat.le_of_ble_eq_true rfl) dX7_isValue_60 rfl (fun v9 h60 hq9 => ?_)
    obtain ⟨r60, rfl, hw⟩ := hq9
    obtain ⟨hp9, hw⟩ := hw
    exact aw_zret (pc := 63) C hr dX7_isValue_63 ⟨Nat.le_of_ble_eq_true rfl, Nat.le_of_ble_eq_true rfl⟩ hp9 ⟨_, rfl, hw⟩
  · have hw := hw.2.2.2.2.1 hc9
    refine aw_tableIn (pc := 1) (off := 63) (tgt := 64) C dX7_isValue_1 (by omega) (by omega) (by rw [hc9]; rfl) (by decide) ?_
    refine aw_iload_n (pc := 64) C dX7_isValue_64 rfl rfl ?_
    refine aw_iconst (pc := 65) C dX7_isValue_65 (i := (0 : Int)) (by decide) ?_
    refine aw_iconst (pc := 66) C dX7_isValue_66 (i := (2 : Int)) (by decide) ?_
    refine aw_callS (pc := 67) (as := [vI a1, vI (0 : Int), vI (2 : Int)]) C (fun As hA => met_X7_within G l As a1 (0 : Int) (2 : Int) _ _ hA hw) tw883 tw884 tw10 tw885 ⟨rfl, rfl⟩ ⟨by decide, by decide, pd_X7_within⟩ ⟨Nat.le_of_ble_eq_true rfl, Nat.le_of_ble_eq_true rfl⟩ ⟨Nat.zero_le _, Nat.zero_le _⟩ (Nat.le_of_ble_eq_true rfl) dX7_isValue_67 rfl (fun v9 h67 hq9 => ?_)
    obtain ⟨r67, rfl, hw⟩ := hq9
    obtain ⟨hp9, hw⟩ := hw
    exact aw_zret (pc := 70) C hr dX7_isValue_70 ⟨Nat.le_of_ble_eq_true rfl, Nat.le_of_ble_eq_true rfl⟩ hp9 ⟨_, rfl, hw⟩
  · have hw := hw.2.2.2.2.2.1 hc9
    refine aw_tableIn (pc := 1) (off := 70) (tgt := 71) C dX7_isValue_1 (by omega) (by omega) (by rw [hc9]; rfl) (by decide) ?_
    refine aw_iload_n (pc := 71) C dX7_isValue_71 rfl rfl ?_
    refine aw_iconst (pc := 72) C dX7_isValue_72 (i := (0 : Int)) (by decide) ?_
    refine aw_bipush (pc := 73) C dX7_isValue_73 (i := (9 : Int)) (by decide) ?_
    refine aw_callS (pc := 75) (as := [vI a1, vI (0 : Int), vI (9 : Int)]) C (fun As hA => met_X7_within G l As a1 (0 : Int) (9 : Int) _ _ hA hw) tw883 tw884 tw10 tw885 ⟨rfl, rfl⟩ ⟨by decide, by decide, pd_X7_within⟩ ⟨Nat.le_of_ble_eq_true rfl, Nat.le_of_ble_eq_true rfl⟩ ⟨Nat.zero_le _, Nat.zero_le _⟩ (Nat.le_of_ble_eq_true rfl) dX7_isValue_75 rfl (fun v9 h75 hq9 => ?_)
    obtain ⟨r75, rfl, hw⟩ := hq9
    obtain ⟨hp9, hw⟩ := hw
    exact aw_zret (pc := 78) C hr dX7_isValue_78 ⟨Nat.le_of_ble_eq_true rfl, Nat.le_of_ble_eq_true rfl⟩ hp9 ⟨_, rfl, hw⟩
  · have hw := hw.2.2.2.2.2.2 hc9
    refine aw_tableOut (pc := 1) (tgt := 79) C dX7_isValue_1 hc9 (by decide) ?_
    refine aw_iload_n (pc := 79) C dX7_isValue_79 rfl rfl ?_
    refine aw_iconst (pc := 80) C dX7_isValue_80 (i := (0 : Int)) (by decide) ?_
    refine aw_bipush (pc := 81) C dX7_isValue_81 (i := (20 : Int)) (by decide) ?_
    refine aw_callS (pc := 83) (as := [vI a1, vI (0 : Int), vI (20 : Int)]) C (fun As hA => met_X7_within G l As a1 (0 : Int) (20 : Int) _ _ hA hw) tw883 tw884 tw10 tw885 ⟨rfl, rfl⟩ ⟨by decide, by decide, pd_X7_within⟩ ⟨Nat.le_of_ble_eq_true rfl, Nat.le_of_ble_eq_true rfl⟩ ⟨Nat.zero_le _, Nat.zero_le _⟩ (Nat.le_of_ble_eq_true rfl) dX7_isValue_83 rfl (fun v9 h83 hq9 => ?_)
    obtain ⟨r83, rfl, hw⟩ := hq9
    obtain ⟨hp9, hw⟩ := hw
    exact aw_zret (pc := 86) C hr dX7_isValue_86 ⟨Nat.le_of_ble_eq_true rfl, Nat.le_of_ble_eq_true rfl⟩ hp9 ⟨_, rfl, hw⟩
theorem dX1_letterProperty_0 : decode cX1_letterProperty 0 = .ok (.iload_n 1, 1) := by decide +kernel
theorem dX1_letterProperty_1 : decode cX1_letterProperty 1 = .ok (.ifCond .ne 15, 3) := by decide +kernel
theorem dX1_letterProperty_4 : decode cX1_letterProperty 4 = .ok (.aload_n 0, 1) := by decide +kernel
theorem dX1_letterProperty_5 : decode cX1_letterProperty 5 = .ok (.getfield 40, 3) := by decide +kernel
theorem dX1_letterProperty_8 : decode cX1_letterProperty 8 = .ok (.getfield 95, 3) := by decide +kernel
theorem dX1_letterProperty_11 : decode cX1_letterProperty 11 = .ok (.iload_n 2, 1) := by decide +kernel
theorem dX1_letterProperty_12 : decode cX1_letterProperty 12 = .ok (.iaload, 1) := by decide +kernel
theorem dX1_letterProperty_13 : decode cX1_letterProperty 13 = .ok (.goto 12, 3) := by decide +kernel
theorem dX1_letterProperty_16 : decode cX1_letterProperty 16 = .ok (.aload_n 0, 1) := by decide +kernel
theorem dX1_letterProperty_17 : decode cX1_letterProperty 17 = .ok (.getfield 40, 3) := by decide +kernel
theorem dX1_letterProperty_20 : decode cX1_letterProperty 20 = .ok (.getfield 98, 3) := by decide +kernel
theorem dX1_letterProperty_23 : decode cX1_letterProperty 23 = .ok (.iload_n 2, 1) := by decide +kernel
theorem dX1_letterProperty_24 : decode cX1_letterProperty 24 = .ok (.iaload, 1) := by decide +kernel
theorem dX1_letterProperty_25 : decode cX1_letterProperty 25 = .ok (.istore 4, 2) := by decide +kernel
theorem dX1_letterProperty_27 : decode cX1_letterProperty 27 = .ok (.iload_n 3, 1) := by decide +kernel
theorem dX1_letterProperty_28 : decode cX1_letterProperty 28 = .ok (.tableswitch 104 0 4 #[36, 49, 62, 75, 78], 36) := by decide +kernel
theorem dX1_letterProperty_64 : decode cX1_letterProperty 64 = .ok (.aload_n 0, 1) := by decide +kernel
theorem dX1_letterProperty_65 : decode cX1_letterProperty 65 = .ok (.getfield 31, 3) := by decide +kernel
theorem dX1_letterProperty_68 : decode cX1_letterProperty 68 = .ok (.iload_n 1, 1) := by decide +kernel
theorem dX1_letterProperty_69 : decode cX1_letterProperty 69 = .ok (.invokevirtual 65, 3) := by decide +kernel
theorem dX1_letterProperty_72 : decode cX1_letterProperty 72 = .ok (.iload_n 2, 1) := by decide +kernel
theorem dX1_letterProperty_73 : decode cX1_letterProperty 73 = .ok (.invokevirtual 101, 3) := by decide +kernel
theorem dX1_letterProperty_76 : decode cX1_letterProperty 76 = .ok (.ireturn, 1) := by decide +kernel
theorem dX1_letterProperty_77 : decode cX1_letterProperty 77 = .ok (.aload_n 0, 1) := by decide +kernel
theorem dX1_letterProperty_78 : decode cX1_letterProperty 78 = .ok (.getfield 31, 3) := by decide +kernel
theorem dX1_letterProperty_81 : decode cX1_letterProperty 81 = .ok (.iload_n 1, 1) := by decide +kernel
theorem dX1_letterProperty_82 : decode cX1_letterProperty 82 = .ok (.invokevirtual 65, 3) := by decide +kernel
theorem dX1_letterProperty_85 : decode cX1_letterProperty 85 = .ok (.iload_n 2, 1) := by decide +kernel
theorem dX1_letterProperty_86 : decode cX1_letterProperty 86 = .ok (.invokevirtual 105, 3) := by decide +kernel
theorem dX1_letterProperty_89 : decode cX1_letterProperty 89 = .ok (.ireturn, 1) := by decide +kernel
theorem dX1_letterProperty_90 : decode cX1_letterProperty 90 = .ok (.aload_n 0, 1) := by decide +kernel
theorem dX1_letterProperty_91 : decode cX1_letterProperty 91 = .ok (.getfield 31, 3) := by decide +kernel
theorem dX1_letterProperty_94 : decode cX1_letterProperty 94 = .ok (.iload_n 1, 1) := by decide +kernel
theorem dX1_letterProperty_95 : decode cX1_letterProperty 95 = .ok (.invokevirtual 65, 3) := by decide +kernel
theorem dX1_letterProperty_98 : decode cX1_letterProperty 98 = .ok (.iload_n 2, 1) := by decide +kernel
theorem dX1_letterProperty_99 : decode cX1_letterProperty 99 = .ok (.invokevirtual 108, 3) := by decide +kernel
theorem dX1_letterProperty_102 : decode cX1_letterProperty 102 = .ok (.ireturn, 1) := by decide +kernel
theorem dX1_letterProperty_103 : decode cX1_letterProperty 103 = .ok (.iload 4, 2) := by decide +kernel
theorem dX1_letterProperty_105 : decode cX1_letterProperty 105 = .ok (.ireturn, 1) := by decide +kernel
theorem dX1_letterProperty_106 : decode cX1_letterProperty 106 = .ok (.iload_n 1, 1) := by decide +kernel
theorem dX1_letterProperty_107 : decode cX1_letterProperty 107 = .ok (.ifCond .ne 15, 3) := by decide +kernel
theorem dX1_letterProperty_110 : decode cX1_letterProperty 110 = .ok (.aload_n 0, 1) := by decide +kernel
theorem dX1_letterProperty_111 : decode cX1_letterProperty 111 = .ok (.getfield 40, 3) := by decide +kernel
theorem dX1_letterProperty_114 : decode cX1_letterProperty 114 = .ok (.getfield 74, 3) := by decide +kernel
theorem dX1_letterProperty_117 : decode cX1_letterProperty 117 = .ok (.iload_n 2, 1) := by decide +kernel
theorem dX1_letterProperty_118 : decode cX1_letterProperty 118 = .ok (.iaload, 1) := by decide +kernel
theorem dX1_letterProperty_119 : decode cX1_letterProperty 119 = .ok (.goto 12, 3) := by decide +kernel
theorem dX1_letterProperty_122 : decode cX1_letterProperty 122 = .ok (.aload_n 0, 1) := by decide +kernel
theorem dX1_letterProperty_123 : decode cX1_letterProperty 123 = .ok (.getfield 40, 3) := by decide +kernel
theorem dX1_letterProperty_126 : decode cX1_letterProperty 126 = .ok (.getfield 80, 3) := by decide +kernel
theorem dX1_letterProperty_129 : decode cX1_letterProperty 129 = .ok (.iload_n 2, 1) := by decide +kernel
theorem dX1_letterProperty_130 : decode cX1_letterProperty 130 = .ok (.iaload, 1) := by decide +kernel
theorem dX1_letterProperty_131 : decode cX1_letterProperty 131 = .ok (.ireturn, 1) := by decide +kernel
theorem dX1_letterProperty_132 : decode cX1_letterProperty 132 = .ok (.iload 4, 2) := by decide +kernel
theorem dX1_letterProperty_134 : decode cX1_letterProperty 134 = .ok (.iconst (-1), 1) := by decide +kernel
theorem dX1_letterProperty_135 : decode cX1_letterProperty 135 = .ok (.if_icmp .ne 5, 3) := by decide +kernel
theorem dX1_letterProperty_138 : decode cX1_letterProperty 138 = .ok (.iconst 0, 1) := by decide +kernel
theorem dX1_letterProperty_139 : decode cX1_letterProperty 139 = .ok (.ireturn, 1) := by decide +kernel
theorem dX1_letterProperty_140 : decode cX1_letterProperty 140 = .ok (.iload_n 1, 1) := by decide +kernel
theorem dX1_letterProperty_141 : decode cX1_letterProperty 141 = .ok (.ifCond .ne 16, 3) := by decide +kernel
theorem dX1_letterProperty_144 : decode cX1_letterProperty 144 = .ok (.aload_n 0, 1) := by decide +kernel
theorem dX1_letterProperty_145 : decode cX1_letterProperty 145 = .ok (.getfield 40, 3) := by decide +kernel
theorem dX1_letterProperty_148 : decode cX1_letterProperty 148 = .ok (.iload_n 2, 1) := by decide +kernel
theorem dX1_letterProperty_149 : decode cX1_letterProperty 149 = .ok (.iload 4, 2) := by decide +kernel
theorem dX1_letterProperty_151 : decode cX1_letterProperty 151 = .ok (.invokevirtual 111, 3) := by decide +kernel
theorem dX1_letterProperty_154 : decode cX1_letterProperty 154 = .ok (.goto 13, 3) := by decide +kernel
theorem dX1_letterProperty_157 : decode cX1_letterProperty 157 = .ok (.aload_n 0, 1) := by decide +kernel
theorem dX1_letterProperty_158 : decode cX1_letterProperty 158 = .ok (.getfield 40, 3) := by decide +kernel
theorem dX1_letterProperty_161 : decode cX1_letterProperty 161 = .ok (.iload 4, 2) := by decide +kernel
theorem dX1_letterProperty_163 : decode cX1_letterProperty 163 = .ok (.iload_n 2, 1) := by decide +kernel
theorem dX1_letterProperty_164 : decode cX1_letterProperty 164 = .ok (.invokevirtual 111, 3) := by decide +kernel
theorem dX1_letterProperty_167 : decode cX1_letterProperty 167 = .ok (.ireturn, 1) := by decide +kernel
theorem pd_X1_letterProperty : (parseMethodDescriptor yX1_letterProperty.desc).map (fun d => d.parameters.length) = some 3 := by decide +kernel
def w_X1_letterProperty (zz : Nat → Nat) (a0 : Nat) (a1 : Int) (a2 : Int) (a3 : Int) (h : AH) (Q : Int → AH → Prop) : Prop := jn (fun (t0_25 : Int) (h_25 : AH) => (a3 = 0 → okA h_25 a0 1 ∧ ∃ b65 : Nat, hfR h_25 a0 2 = some b65 ∧ okA h_25 b65 4 ∧ w_X4_text zz b65 a1 h_25 (fun (r69 : Nat) (h69 : AH) => okA h69 r69 5 ∧ w_X5_rowOf zz r69 a2 h69 (fun (r73 : Int) (h73 : AH) => Q r73 h73))) ∧ (a3 = 1 → okA h_25 a0 1 ∧ ∃ b78 : Nat, hfR h_25 a0 2 = some b78 ∧ okA h_25 b78 4 ∧ w_X4_text zz b78 a1 h_25 (fun (r82 : Nat) (h82 : AH) => okA h82 r82 5 ∧ w_X5_columnOf zz r82 a2 h82 (fun (r86 : Int) (h86 : AH) => Q r86 h86))) ∧ (a3 = 2 → okA h_25 a0 1 ∧ ∃ b91 : Nat, hfR h_25 a0 2 = some b91 ∧ okA h_25 b91 4 ∧ w_X4_text zz b91 a1 h_25 (fun (r95 : Nat) (h95 : AH) => okA h95 r95 5 ∧ w_X5_codeOf zz r95 a2 h95 (fun (r99 : Int) (h99 : AH) => Q r99 h99))) ∧ (a3 = 3 → Q t0_25 h_25) ∧ (a3 = 4 → jn (fun (t0_131 : Int) (h_131 : AH) => Q t0_131 h_131) (fun k_131 : Int → AH → Prop => ((¬ a1 = 0) → okA h_25 a0 1 ∧ ∃ b123 : Nat, hfR h_25 a0 0 = some b123 ∧ okA h_25 b123 3 ∧ ∃ b126 : Nat, hfR h_25 b123 3 = some b126 ∧ okI h_25 b126 a2 ∧ k_131 (haI h_25 b126 a2) h_25) ∧ ((a1 = 0) → okA h_25 a0 1 ∧ ∃ b111 : Nat, hfR h_25 a0 0 = some b111 ∧ okA h_25 b111 3 ∧ ∃ b114 : Nat, hfR h_25 b111 2 = some b114 ∧ okI h_25 b114 a2 ∧ k_131 (haI h_25 b114 a2) h_25))) ∧ ((a3 < 0 ∨ 4 < a3) → ((¬ t0_25 = (-1 : Int)) → jn (fun (t0_167 : Int) (h_167 : AH) => Q t0_167 h_167) (fun k_167 : Int → AH → Prop => ((¬ a1 = 0) → okA h_25 a0 1 ∧ ∃ b158 : Nat, hfR h_25 a0 0 = some b158 ∧ okA h_25 b158 3 ∧ w_X3_distance zz b158 t0_25 a2 h_25 (fun (r164 : Int) (h164 : AH) => k_167 r164 h164)) ∧ ((a1 = 0) → okA h_25 a0 1 ∧ ∃ b145 : Nat, hfR h_25 a0 0 = some b145 ∧ okA h_25 b145 3 ∧ w_X3_distance zz b145 a2 t0_25 h_25 (fun (r151 : Int) (h151 : AH) => k_167 r151 h151)))) ∧ ((t0_25 = (-1 : Int)) → Q (0 : Int) h_25))) (fun k_25 : Int → AH → Prop => ((¬ a1 = 0) → okA h a0 1 ∧ ∃ b17 : Nat, hfR h a0 0 = some b17 ∧ okA h b17 3 ∧ ∃ b20 : Nat, hfR h b17 1 = some b20 ∧ okI h b20 a2 ∧ k_25 (haI h b20 a2) h) ∧ ((a1 = 0) → okA h a0 1 ∧ ∃ b5 : Nat, hfR h a0 0 = some b5 ∧ okA h b5 3 ∧ ∃ b8 : Nat, hfR h b5 0 = some b8 ∧ okI h b8 a2 ∧ k_25 (haI h b8 a2) h))
set_option maxRecDepth 100000 in
set_option maxHeartbeats 4000000 in
theorem met_X1_letterProperty (G : GG) (l : Launch) : ∀ (As : List Value) (a0 : Nat) (a1 : Int) (a2 : Int) (a3 : Int) (h : AH) (Q : Int → AH → Prop), As.map ab = List.map some ([vR a0, vI a1, vI a2, vI a3] : List AV) → w_X1_letterProperty G.2.2 a0 a1 a2 a3 h Q → Met l yX1_letterProperty (.code yX1_letterProperty cX1_letterProperty 5 (some .int) :: xTb) ({ frames := 2, cells := 0, slots := 0, locals := 45 } : Room) (PcA G As h) (QG G (oI Q)) 0 0 (frA G) := by
  intro As a0 a1 a2 a3 h Q hA hw
  refine met_of hA (by decide) (Nat.le_of_ble_eq_true rfl) (fun p e s m args below meth c C hml hr hnm => ?_)
  unfold w_X1_letterProperty at hw
  refine aw_iload_n (pc := 0) C dX1_letterProperty_0 rfl rfl ?_
  obtain ⟨k_25, hk_25, hw⟩ := jn_out hw
  have J_25 : ∀ (t0_25 : Int) (h_25 : AH), k_25 t0_25 h_25 → AW G p l e ({ frames := 2, cells := 0, slots := 0, locals := 45 } : Room) s m args below meth c 0 0 (MQ below (QG G (oI Q)) args s 0 0 (frA G)) 25 (eOf [(0, vR a0), (1, vI a1), (2, vI a2), (3, vI a3)]) [vI t0_25] h_25 := by
    intro t0_25 h_25 hw
    rw [hk_25] at hw
    refine aw_istore (pc := 25) C dX1_letterProperty_25 (by rw [hml]; decide) ?_
    refine aw_iload_n (pc := 27) C dX1_letterProperty_27 rfl rfl ?_
    have hcs9 : a3 = 0 ∨ a3 = 1 ∨ a3 = 2 ∨ a3 = 3 ∨ a3 = 4 ∨ (a3 < 0 ∨ 4 < a3) := by omega
    rcases hcs9 with hc9 | hc9 | hc9 | hc9 | hc9 | hc9
    · have hw := hw.1 hc9
      refine aw_tableIn (pc := 28) (off := 36) (tgt := 64) C dX1_letterProperty_28 (by omega) (by omega) (by rw [hc9]; rfl) (by decide) ?_
      refine aw_aload_n (pc := 64) C dX1_letterProperty_64 rfl rfl ?_
      obtain ⟨hp9, b65, hb9, hw⟩ := hw
      refine aw_getR (pc := 65) C (ci := 1) (k := 2) ci1 (by decide) tw177 dX1_letterProperty_65 rfl hp9 hb9 ?_
      refine aw_iload_n (pc := 68) C dX1_letterProperty_68 rfl rfl ?_
      obtain ⟨hp9, hw⟩ := hw
      refine aw_callV (pc := 69) (as := [vI a1]) C ci4 (fun As hA => met_X4_text G l As b65 a1 _ _ hA hw) tw381 tw266 tw267 tw2 tw268 ⟨rfl, rfl⟩ ⟨rfl, by decide, by decide, pd_X4_text⟩ ⟨Nat.le_of_ble_eq_true rfl, Nat.le_of_ble_eq_true rfl⟩ ⟨Nat.zero_le _, Nat.zero_le _⟩ (Nat.le_of_ble_eq_true rfl) dX1_letterProperty_69 rfl hp9 (fun v9 h69 hq9 => ?_)
      obtain ⟨r69, rfl, hw⟩ := hq9
      refine aw_iload_n (pc := 72) C dX1_letterProperty_72 rfl rfl ?_
      obtain ⟨hp9, hw⟩ := hw
      refine aw_callV (pc := 73) (as := [vI a2]) C ci5 (fun As hA => met_X5_rowOf G l As r69 a2 _ _ hA hw) tw443 tw335 tw336 tw3 tw337 ⟨rfl, rfl⟩ ⟨rfl, by decide, by decide, pd_X5_rowOf⟩ ⟨Nat.le_of_ble_eq_true rfl, Nat.le_of_ble_eq_true rfl⟩ ⟨Nat.zero_le _, Nat.zero_le _⟩ (Nat.le_of_ble_eq_true rfl) dX1_letterProperty_73 rfl hp9 (fun v9 h73 hq9 => ?_)
      obtain ⟨r73, rfl, hw⟩ := hq9
      exact aw_iret (pc := 76) C hr dX1_letterProperty_76 ⟨Nat.le_of_ble_eq_true rfl, Nat.le_of_ble_eq_true rfl⟩ ⟨_, rfl, hw⟩
    · have hw := hw.2.1 hc9
      refine aw_tableIn (pc := 28) (off := 49) (tgt := 77) C dX1_letterProperty_28 (by omega) (by omega) (by rw [hc9]; rfl) (by decide) ?_
      refine aw_aload_n (pc := 77) C dX1_letterProperty_77 rfl rfl ?_
      obtain ⟨hp9, b78, hb9, hw⟩ := hw
      refine aw_getR (pc := 78) C (ci := 1) (k := 2) ci1 (by decide) tw177 dX1_letterProperty_78 rfl hp9 hb9 ?_
      refine aw_iload_n (pc := 81) C dX1_letterProperty_81 rfl rfl ?_
      obtain ⟨hp9, hw⟩ := hw
      refine aw_callV (pc := 82) (as := [vI a1]) C ci4 (fun As hA => met_X4_text G l As b78 a1 _ _ hA hw) tw381 tw266 tw267 tw2 tw268 ⟨rfl, rfl⟩ ⟨rfl, by decide, by decide, pd_X4_text⟩ ⟨Nat.le_of_ble_eq_true rfl, Nat.le_of_ble_eq_true rfl⟩ ⟨Nat.zero_le _, Nat.zero_le _⟩ (Nat.le_of_ble_eq_true rfl) dX1_letterProperty_82 rfl hp9 (fun v9 h82 hq9 => ?_)
      obtain ⟨r82, rfl, hw⟩ := hq9
      refine aw_iload_n (pc := 85) C dX1_letterProperty_85 rfl rfl ?_
      obtain ⟨hp9, hw⟩ := hw
      refine aw_callV (pc := 86) (as := [vI a2]) C ci5 (fun As hA => met_X5_columnOf G l As r82 a2 _ _ hA hw) tw441 tw343 tw344 tw3 tw345 ⟨rfl, rfl⟩ ⟨rfl, by decide, by decide, pd_X5_columnOf⟩ ⟨Nat.le_of_ble_eq_true rfl, Nat.le_of_ble_eq_true rfl⟩ ⟨Nat.zero_le _, Nat.zero_le _⟩ (Nat.le_of_ble_eq_true rfl) dX1_letterProperty_86 rfl hp9 (fun v9 h86 hq9 => ?_)
      obtain ⟨r86, rfl, hw⟩ := hq9
      exact aw_iret (pc := 89) C hr dX1_letterProperty_89 ⟨Nat.le_of_ble_eq_true rfl, Nat.le_of_ble_eq_true rfl⟩ ⟨_, rfl, hw⟩
    · have hw := hw.2.2.1 hc9
      refine aw_tableIn (pc := 28) (off := 62) (tgt := 90) C dX1_letterProperty_28 (by omega) (by omega) (by rw [hc9]; rfl) (by decide) ?_
      refine aw_aload_n (pc := 90) C dX1_letterProperty_90 rfl rfl ?_
      obtain ⟨hp9, b91, hb9, hw⟩ := hw
      refine aw_getR (pc := 91) C (ci := 1) (k := 2) ci1 (by decide) tw177 dX1_letterProperty_91 rfl hp9 hb9 ?_
      refine aw_iload_n (pc := 94) C dX1_letterProperty_94 rfl rfl ?_
      obtain ⟨hp9, hw⟩ := hw
      refine aw_callV (pc := 95) (as := [vI a1]) C ci4 (fun As hA => met_X4_text G l As b91 a1 _ _ hA hw) tw381 tw266 tw267 tw2 tw268 ⟨rfl, rfl⟩ ⟨rfl, by decide, by decide, pd_X4_text⟩ ⟨Nat.le_of_ble_eq_true rfl, Nat.le_of_ble_eq_true rfl⟩ ⟨Nat.zero_le _, Nat.zero_le _⟩ (Nat.le_of_ble_eq_true rfl) dX1_letterProperty_95 rfl hp9 (fun v9 h95 hq9 => ?_)
      obtain ⟨r95, rfl, hw⟩ := hq9
      refine aw_iload_n (pc := 98) C dX1_letterProperty_98 rfl rfl ?_
      obtain ⟨hp9, hw⟩ := hw
      refine aw_callV (pc := 99) (as := [vI a2]) C ci5 (fun As hA => met_X5_codeOf G l As r95 a2 _ _ hA hw) tw456 tw312 tw313 tw3 tw314 ⟨rfl, rfl⟩ ⟨rfl, by decide, by decide, pd_X5_codeOf⟩ ⟨Nat.le_of_ble_eq_true rfl, Nat.le_of_ble_eq_true rfl⟩ ⟨Nat.zero_le _, Nat.zero_le _⟩ (Nat.le_of_ble_eq_true rfl) dX1_letterProperty_99 rfl hp9 (fun v9 h99 hq9 => ?_)
      obtain ⟨r99, rfl, hw⟩ := hq9
      exact aw_iret (pc := 102) C hr dX1_letterProperty_102 ⟨Nat.le_of_ble_eq_true rfl, Nat.le_of_ble_eq_true rfl⟩ ⟨_, rfl, hw⟩
    · have hw := hw.2.2.2.1 hc9
      refine aw_tableIn (pc := 28) (off := 75) (tgt := 103) C dX1_letterProperty_28 (by omega) (by omega) (by rw [hc9]; rfl) (by decide) ?_
      refine aw_iload (pc := 103) C dX1_letterProperty_103 rfl ?_
      exact aw_iret (pc := 105) C hr dX1_letterProperty_105 ⟨Nat.le_of_ble_eq_true rfl, Nat.le_of_ble_eq_true rfl⟩ ⟨_, rfl, hw⟩
    · have hw := hw.2.2.2.2.1 hc9
      refine aw_tableIn (pc := 28) (off := 78) (tgt := 106) C dX1_letterProperty_28 (by omega) (by omega) (by rw [hc9]; rfl) (by decide) ?_
      refine aw_iload_n (pc := 106) C dX1_letterProperty_106 rfl rfl ?_
      obtain ⟨k_131, hk_131, hw⟩ := jn_out hw
      have J_131 : ∀ (t0_131 : Int) (h_131 : AH), k_131 t0_131 h_131 → AW G p l e ({ frames := 2, cells := 0, slots := 0, locals := 45 } : Room) s m args below meth c 0 0 (MQ below (QG G (oI Q)) args s 0 0 (frA G)) 131 (eOf []) [vI t0_131] h_131 := by
        intro t0_131 h_131 hw
        rw [hk_131] at hw
        exact aw_iret (pc := 131) C hr dX1_letterProperty_131 ⟨Nat.le_of_ble_eq_true rfl, Nat.le_of_ble_eq_true rfl⟩ ⟨_, rfl, hw⟩
      refine aw_if_ne (pc := 107) (tgt := 122) C dX1_letterProperty_107 (by decide) (fun hc9 => ?_) (fun hc9 => ?_)
      · have hw := hw.1 hc9
        refine aw_aload_n (pc := 122) C dX1_letterProperty_122 rfl rfl ?_
        obtain ⟨hp9, b123, hb9, hw⟩ := hw
        refine aw_getR (pc := 123) C (ci := 1) (k := 0) ci1 (by decide) tw173 dX1_letterProperty_123 rfl hp9 hb9 ?_
        obtain ⟨hp9, b126, hb9, hw⟩ := hw
        refine aw_getR (pc := 126) C (ci := 3) (k := 3) ci3 (by decide) tw100 dX1_letterProperty_126 rfl hp9 hb9 ?_
        refine aw_iload_n (pc := 129) C dX1_letterProperty_129 rfl rfl ?_
        obtain ⟨⟨k9, hp9⟩, hw⟩ := hw
        refine aw_iald (pc := 130) C dX1_letterProperty_130 hp9 ?_
        refine aw_sub [] trivial ?_
        exact J_131 _ _ hw
      · have hw := hw.2 hc9
        refine aw_aload_n (pc := 110) C dX1_letterProperty_110 rfl rfl ?_
        obtain ⟨hp9, b111, hb9, hw⟩ := hw
        refine aw_getR (pc := 111) C (ci := 1) (k := 0) ci1 (by decide) tw173 dX1_letterProperty_111 rfl hp9 hb9 ?_
        obtain ⟨hp9, b114, hb9, hw⟩ := hw
        refine aw_getR (pc := 114) C (ci := 3) (k := 2) ci3 (by decide) tw98 dX1_letterProperty_114 rfl hp9 hb9 ?_
        refine aw_iload_n (pc := 117) C dX1_letterProperty_117 rfl rfl ?_
        obtain ⟨⟨k9, hp9⟩, hw⟩ := hw
        refine aw_iald (pc := 118) C dX1_letterProperty_118 hp9 ?_
        refine aw_goto (pc := 119) (tgt := 131) C dX1_letterProperty_119 (by decide) ?_
        refine aw_sub [] trivial ?_
        exact J_131 _ _ hw
    · have hw := hw.2.2.2.2.2 hc9
      refine aw_tableOut (pc := 28) (tgt := 132) C dX1_letterProperty_28 hc9 (by decide) ?_
      refine aw_iload (pc := 132) C dX1_letterProperty_132 rfl ?_
      refine aw_iconst (pc := 134) C dX1_letterProperty_134 (i := (-1 : Int)) (by decide) ?_
      refine aw_icmp_ne (pc := 135) (tgt := 140) C dX1_letterProperty_135 (by decide) (fun hc9 => ?_) (fun hc9 => ?_)
      · have hw := hw.1 hc9
        refine aw_iload_n (pc := 140) C dX1_letterProperty_140 rfl rfl ?_
        obtain ⟨k_167, hk_167, hw⟩ := jn_out hw
        have J_167 : ∀ (t0_167 : Int) (h_167 : AH), k_167 t0_167 h_167 → AW G p l e ({ frames := 2, cells := 0, slots := 0, locals := 45 } : Room) s m args below meth c 0 0 (MQ below (QG G (oI Q)) args s 0 0 (frA G)) 167 (eOf []) [vI t0_167] h_167 := by
          intro t0_167 h_167 hw
          rw [hk_167] at hw
          exact aw_iret (pc := 167) C hr dX1_letterProperty_167 ⟨Nat.le_of_ble_eq_true rfl, Nat.le_of_ble_eq_true rfl⟩ ⟨_, rfl, hw⟩
        refine aw_if_ne (pc := 141) (tgt := 157) C dX1_letterProperty_141 (by decide) (fun hc9 => ?_) (fun hc9 => ?_)
        · have hw := hw.1 hc9
          refine aw_aload_n (pc := 157) C dX1_letterProperty_157 rfl rfl ?_
          obtain ⟨hp9, b158, hb9, hw⟩ := hw
          refine aw_getR (pc := 158) C (ci := 1) (k := 0) ci1 (by decide) tw173 dX1_letterProperty_158 rfl hp9 hb9 ?_
          refine aw_iload (pc := 161) C dX1_letterProperty_161 rfl ?_
          refine aw_iload_n (pc := 163) C dX1_letterProperty_163 rfl rfl ?_
          obtain ⟨hp9, hw⟩ := hw
          refine aw_callV (pc := 164) (as := [vI t0_25, vI a2]) C ci3 (fun As hA => met_X3_distance G l As b158 t0_25 a2 _ _ hA hw) tw432 tw339 tw340 tw7 tw341 ⟨rfl, rfl⟩ ⟨rfl, by decide, by decide, pd_X3_distance⟩ ⟨Nat.le_of_ble_eq_true rfl, Nat.le_of_ble_eq_true rfl⟩ ⟨Nat.zero_le _, Nat.zero_le _⟩ (Nat.le_of_ble_eq_true rfl) dX1_letterProperty_164 rfl hp9 (fun v9 h164 hq9 => ?_)
          obtain ⟨r164, rfl, hw⟩ := hq9
          refine aw_sub [] trivial ?_
          exact J_167 _ _ hw
        · have hw := hw.2 hc9
          refine aw_aload_n (pc := 144) C dX1_letterProperty_144 rfl rfl ?_
          obtain ⟨hp9, b145, hb9, hw⟩ := hw
          refine aw_getR (pc := 145) C (ci := 1) (k := 0) ci1 (by decide) tw173 dX1_letterProperty_145 rfl hp9 hb9 ?_
          refine aw_iload_n (pc := 148) C dX1_letterProperty_148 rfl rfl ?_
          refine aw_iload (pc := 149) C dX1_letterProperty_149 rfl ?_
          obtain ⟨hp9, hw⟩ := hw
          refine aw_callV (pc := 151) (as := [vI a2, vI t0_25]) C ci3 (fun As hA => met_X3_distance G l As b145 a2 t0_25 _ _ hA hw) tw432 tw339 tw340 tw7 tw341 ⟨rfl, rfl⟩ ⟨rfl, by decide, by decide, pd_X3_distance⟩ ⟨Nat.le_of_ble_eq_true rfl, Nat.le_of_ble_eq_true rfl⟩ ⟨Nat.zero_le _, Nat.zero_le _⟩ (Nat.le_of_ble_eq_true rfl) dX1_letterProperty_151 rfl hp9 (fun v9 h151 hq9 => ?_)
          obtain ⟨r151, rfl, hw⟩ := hq9
          refine aw_goto (pc := 154) (tgt := 167) C dX1_letterProperty_154 (by decide) ?_
          refine aw_sub [] trivial ?_
          exact J_167 _ _ hw
      · have hw := hw.2 hc9
        refine aw_iconst (pc := 138) C dX1_letterProperty_138 (i := (0 : Int)) (by decide) ?_
        exact aw_iret (pc := 139) C hr dX1_letterProperty_139 ⟨Nat.le_of_ble_eq_true rfl, Nat.le_of_ble_eq_true rfl⟩ ⟨_, rfl, hw⟩
  refine aw_if_ne (pc := 1) (tgt := 16) C dX1_letterProperty_1 (by decide) (fun hc9 => ?_) (fun hc9 => ?_)
  · have hw := hw.1 hc9
    refine aw_aload_n (pc := 16) C dX1_letterProperty_16 rfl rfl ?_
    obtain ⟨hp9, b17, hb9, hw⟩ := hw
    refine aw_getR (pc := 17) C (ci := 1) (k := 0) ci1 (by decide) tw173 dX1_letterProperty_17 rfl hp9 hb9 ?_
    obtain ⟨hp9, b20, hb9, hw⟩ := hw
    refine aw_getR (pc := 20) C (ci := 3) (k := 1) ci3 (by decide) tw96 dX1_letterProperty_20 rfl hp9 hb9 ?_
    refine aw_iload_n (pc := 23) C dX1_letterProperty_23 rfl rfl ?_
    obtain ⟨⟨k9, hp9⟩, hw⟩ := hw
    refine aw_iald (pc := 24) C dX1_letterProperty_24 hp9 ?_
    refine aw_sub [(0, vR a0), (1, vI a1), (2, vI a2), (3, vI a3)] ⟨rfl, rfl, rfl, rfl, trivial⟩ ?_
    exact J_25 _ _ hw
  · have hw := hw.2 hc9
    refine aw_aload_n (pc := 4) C dX1_letterProperty_4 rfl rfl ?_
    obtain ⟨hp9, b5, hb9, hw⟩ := hw
    refine aw_getR (pc := 5) C (ci := 1) (k := 0) ci1 (by decide) tw173 dX1_letterProperty_5 rfl hp9 hb9 ?_
    obtain ⟨hp9, b8, hb9, hw⟩ := hw
    refine aw_getR (pc := 8) C (ci := 3) (k := 0) ci3 (by decide) tw93 dX1_letterProperty_8 rfl hp9 hb9 ?_
    refine aw_iload_n (pc := 11) C dX1_letterProperty_11 rfl rfl ?_
    obtain ⟨⟨k9, hp9⟩, hw⟩ := hw
    refine aw_iald (pc := 12) C dX1_letterProperty_12 hp9 ?_
    refine aw_goto (pc := 13) (tgt := 25) C dX1_letterProperty_13 (by decide) ?_
    refine aw_sub [(0, vR a0), (1, vI a1), (2, vI a2), (3, vI a3)] ⟨rfl, rfl, rfl, rfl, trivial⟩ ?_
    exact J_25 _ _ hw
