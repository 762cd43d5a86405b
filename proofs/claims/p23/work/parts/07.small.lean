/-! THE METHODS, BY PROGRAM (wip/whole/gen.py): what each means (w_..), and its contract (met_..) -/
theorem dJ7_fill_53178_0 : decode cJ7_fill_53178 0 = .ok (.iconst 0, 1) := by decide +kernel
theorem dJ7_fill_53178_1 : decode cJ7_fill_53178 1 = .ok (.istore_n 2, 1) := by decide +kernel
theorem dJ7_fill_53178_2 : decode cJ7_fill_53178 2 = .ok (.aload_n 0, 1) := by decide +kernel
theorem dJ7_fill_53178_3 : decode cJ7_fill_53178 3 = .ok (.arraylength, 1) := by decide +kernel
theorem dJ7_fill_53178_4 : decode cJ7_fill_53178 4 = .ok (.istore_n 3, 1) := by decide +kernel
theorem dJ7_fill_53178_5 : decode cJ7_fill_53178 5 = .ok (.iload_n 2, 1) := by decide +kernel
theorem dJ7_fill_53178_6 : decode cJ7_fill_53178 6 = .ok (.iload_n 3, 1) := by decide +kernel
theorem dJ7_fill_53178_7 : decode cJ7_fill_53178 7 = .ok (.if_icmp .ge 13, 3) := by decide +kernel
theorem dJ7_fill_53178_10 : decode cJ7_fill_53178 10 = .ok (.aload_n 0, 1) := by decide +kernel
theorem dJ7_fill_53178_11 : decode cJ7_fill_53178 11 = .ok (.iload_n 2, 1) := by decide +kernel
theorem dJ7_fill_53178_12 : decode cJ7_fill_53178 12 = .ok (.iload_n 1, 1) := by decide +kernel
theorem dJ7_fill_53178_13 : decode cJ7_fill_53178 13 = .ok (.iastore, 1) := by decide +kernel
theorem dJ7_fill_53178_14 : decode cJ7_fill_53178 14 = .ok (.iinc 2 1, 3) := by decide +kernel
theorem dJ7_fill_53178_17 : decode cJ7_fill_53178 17 = .ok (.goto (-12), 3) := by decide +kernel
theorem dJ7_fill_53178_20 : decode cJ7_fill_53178 20 = .ok (.return_, 1) := by decide +kernel
theorem pd_J7_fill_53178 : (parseMethodDescriptor yJ7_fill_53178.desc).map (fun d => d.parameters.length) = some 2 := by decide +kernel
def w_J7_fill_53178 (zz : Nat → Nat) (a0 : Nat) (a1 : Int) (h : AH) (Q : AH → Prop) : Prop := ∃ k3 : Nat, hkd h a0 = (1, k3) ∧ ∀ x3_4 : Int, x3_4 = (k3 : Int) → ∃ I_5 : Nat → Int → AH → Prop, (∃ n, I_5 n (0 : Int) h) ∧ ∀ (n_5 : Nat) (x2_5 : Int) (h_5 : AH), I_5 n_5 x2_5 h_5 → (((x3_4 ≤ x2_5) → Q h_5) ∧ ((¬ (x3_4 ≤ x2_5)) → okW h_5 a0 x2_5 ∧ ∀ h13 : AH, h13 = saI h_5 a0 (u1 (haI h_5 a0) x2_5 a1) → inR (x2_5 + 1) ∧ ∀ x2_14 : Int, x2_14 = (x2_5 + 1) → ∃ m, m < n_5 ∧ I_5 m x2_14 h13))
set_option maxRecDepth 100000 in
set_option maxHeartbeats 4000000 in
theorem met_J7_fill_53178 (G : GG) (l : Launch) : ∀ (As : List Value) (a0 : Nat) (a1 : Int) (h : AH) (Q : AH → Prop), As.map ab = List.map some ([vR a0, vI a1] : List AV) → w_J7_fill_53178 G.2.2 a0 a1 h Q → Met l yJ7_fill_53178 (.code yJ7_fill_53178 cJ7_fill_53178 4 none :: xTb) ({ frames := 0, cells := 0, slots := 0, locals := 0 } : Room) (PcA G As h) (QG G (oV Q)) 0 0 (frA G) := by
  intro As a0 a1 h Q hA hw
  refine met_of hA (by decide) (Nat.le_of_ble_eq_true rfl) (fun p e s m args below meth c C hml hr hnm => ?_)
  unfold w_J7_fill_53178 at hw
  refine aw_iconst (pc := 0) C dJ7_fill_53178_0 (i := (0 : Int)) (by decide) ?_
  refine aw_istore_n (pc := 1) C dJ7_fill_53178_1 rfl (by rw [hml]; decide) ?_
  refine aw_aload_n (pc := 2) C dJ7_fill_53178_2 rfl rfl ?_
  obtain ⟨k3, hp9, hw⟩ := hw
  refine aw_alen (pc := 3) C dJ7_fill_53178_3 hp9 ?_
  refine aw_nmI (fun x3_4 e9 => ?_)
  have hw := hw x3_4 e9
  refine aw_istore_n (pc := 4) C dJ7_fill_53178_4 rfl (by rw [hml]; decide) ?_
  obtain ⟨I_5, ⟨n9, hi9⟩, hst9⟩ := hw
  have L_5 : ∀ (n_5 : Nat) (x2_5 : Int) (h_5 : AH), I_5 n_5 x2_5 h_5 → AW G p l e ({ frames := 0, cells := 0, slots := 0, locals := 0 } : Room) s m args below meth c 0 0 (MQ below (QG G (oV Q)) args s 0 0 (frA G)) 5 (eOf [(0, vR a0), (1, vI a1), (2, vI x2_5), (3, vI x3_4)]) [] h_5 := by
    intro n_5
    induction n_5 using Nat.strongRecOn with
    | _ n_5 ih_5 =>
    intro x2_5 h_5 hi9
    have hw := hst9 n_5 x2_5 h_5 hi9
    refine aw_iload_n (pc := 5) C dJ7_fill_53178_5 rfl rfl ?_
    refine aw_iload_n (pc := 6) C dJ7_fill_53178_6 rfl rfl ?_
    refine aw_icmp_ge (pc := 7) (tgt := 20) C dJ7_fill_53178_7 (by decide) (fun hc9 => ?_) (fun hc9 => ?_)
    · have hw := hw.1 hc9
      exact aw_vret (pc := 20) C hr dJ7_fill_53178_20 ⟨Nat.le_of_ble_eq_true rfl, Nat.le_of_ble_eq_true rfl⟩ ⟨rfl, hw⟩
    · have hw := hw.2 hc9
      refine aw_aload_n (pc := 10) C dJ7_fill_53178_10 rfl rfl ?_
      refine aw_iload_n (pc := 11) C dJ7_fill_53178_11 rfl rfl ?_
      refine aw_iload_n (pc := 12) C dJ7_fill_53178_12 rfl rfl ?_
      obtain ⟨⟨k9, hp9⟩, hw⟩ := hw
      refine aw_iast (pc := 13) C dJ7_fill_53178_13 hp9 (aw_nmH (fun h13 e9 => ?_))
      have hw := hw h13 e9
      obtain ⟨hp9, hw⟩ := hw
      refine aw_iincN (pc := 14) C dJ7_fill_53178_14 (k := 1) (by decide) rfl (by rw [hml]; decide) hp9 (fun x2_14 e9 => ?_)
      have hw := hw x2_14 e9
      refine aw_goto (pc := 17) (tgt := 5) C dJ7_fill_53178_17 (by decide) ?_
      obtain ⟨m9, hm9, hw⟩ := hw
      refine aw_sub [(0, vR a0), (1, vI a1), (2, vI x2_14), (3, vI x3_4)] ⟨rfl, rfl, rfl, rfl, trivial⟩ ?_
      exact ih_5 m9 hm9 _ _ hw
  refine aw_sub [(0, vR a0), (1, vI a1), (2, vI (0 : Int)), (3, vI x3_4)] ⟨rfl, rfl, rfl, rfl, trivial⟩ ?_
  exact L_5 n9 _ _ hi9
theorem dX0_init_0 : decode cX0_init 0 = .ok (.aload_n 0, 1) := by decide +kernel
theorem dX0_init_1 : decode cX0_init 1 = .ok (.invokespecial 3, 3) := by decide +kernel
theorem dX0_init_4 : decode cX0_init 4 = .ok (.aload_n 0, 1) := by decide +kernel
theorem dX0_init_5 : decode cX0_init 5 = .ok (.bipush 60, 2) := by decide +kernel
theorem dX0_init_7 : decode cX0_init 7 = .ok (.newarray .int, 2) := by decide +kernel
theorem dX0_init_9 : decode cX0_init 9 = .ok (.putfield 9, 3) := by decide +kernel
theorem dX0_init_12 : decode cX0_init 12 = .ok (.aload_n 0, 1) := by decide +kernel
theorem dX0_init_13 : decode cX0_init 13 = .ok (.bipush 80, 2) := by decide +kernel
theorem dX0_init_15 : decode cX0_init 15 = .ok (.newarray .int, 2) := by decide +kernel
theorem dX0_init_17 : decode cX0_init 17 = .ok (.putfield 15, 3) := by decide +kernel
theorem dX0_init_20 : decode cX0_init 20 = .ok (.aload_n 0, 1) := by decide +kernel
theorem dX0_init_21 : decode cX0_init 21 = .ok (.iconst 0, 1) := by decide +kernel
theorem dX0_init_22 : decode cX0_init 22 = .ok (.putfield 18, 3) := by decide +kernel
theorem dX0_init_25 : decode cX0_init 25 = .ok (.return_, 1) := by decide +kernel
theorem pd_X0_init : (parseMethodDescriptor yX0_init.desc).map (fun d => d.parameters.length) = some 0 := by decide +kernel
def w_X0_init (zz : Nat → Nat) (a0 : Nat) (h : AH) (Q : AH → Prop) : Prop := ∀ h7 : AH, h7 = nAI h 60 → okP h7 a0 0 ∧ ∀ h9 : AH, h9 = sfR h7 a0 0 (some (hn h)) → ∀ h15 : AH, h15 = nAI h9 80 → okP h15 a0 0 ∧ ∀ h17 : AH, h17 = sfR h15 a0 1 (some (hn h9)) → okP h17 a0 0 ∧ ∀ h22 : AH, h22 = sfI h17 a0 2 (0 : Int) → Q h22
set_option maxRecDepth 100000 in
set_option maxHeartbeats 4000000 in
theorem met_X0_init (G : GG) (l : Launch) : ∀ (As : List Value) (a0 : Nat) (h : AH) (Q : AH → Prop), As.map ab = List.map some ([vR a0] : List AV) → w_X0_init G.2.2 a0 h Q → Met l yX0_init (.code yX0_init cX0_init 1 none :: xTb) ({ frames := 1, cells := 2, slots := 140, locals := 20 } : Room) (PcA G As h) (QG G (oV Q)) 2 140 (frA G) := by
  intro As a0 h Q hA hw
  refine met_of hA (by decide) (Nat.le_of_ble_eq_true rfl) (fun p e s m args below meth c C hml hr hnm => ?_)
  unfold w_X0_init at hw
  refine aw_aload_n (pc := 0) C dX0_init_0 rfl rfl ?_
  refine aw_objInit (pc := 1) C tw204 tw23 tw24 ⟨Nat.le_of_ble_eq_true rfl, Nat.le_of_ble_eq_true rfl⟩ (Nat.le_of_ble_eq_true rfl) dX0_init_1 ?_
  refine aw_aload_n (pc := 4) C dX0_init_4 rfl rfl ?_
  refine aw_bipush (pc := 5) C dX0_init_5 (i := (60 : Int)) (by decide) ?_
  refine aw_newI (pc := 7) (n := 60) C tw57 dX0_init_7 (Nat.le_of_ble_eq_true rfl) (Nat.le_of_ble_eq_true rfl) (Nat.le_of_ble_eq_true rfl) (aw_nmH (fun h7 e9 => ?_))
  have hw := hw h7 e9
  obtain ⟨hp9, hw⟩ := hw
  refine aw_putR (pc := 9) C (ci := 0) (k := 0) ci0 (by decide) tw205 (Or.inr ⟨rfl, hnm, rfl⟩) dX0_init_9 rfl hp9 (aw_nmH (fun h9 e9 => ?_))
  have hw := hw h9 e9
  refine aw_aload_n (pc := 12) C dX0_init_12 rfl rfl ?_
  refine aw_bipush (pc := 13) C dX0_init_13 (i := (80 : Int)) (by decide) ?_
  refine aw_newI (pc := 15) (n := 80) C tw57 dX0_init_15 (Nat.le_of_ble_eq_true rfl) (Nat.le_of_ble_eq_true rfl) (Nat.le_of_ble_eq_true rfl) (aw_nmH (fun h15 e9 => ?_))
  have hw := hw h15 e9
  obtain ⟨hp9, hw⟩ := hw
  refine aw_putR (pc := 17) C (ci := 0) (k := 1) ci0 (by decide) tw207 (Or.inr ⟨rfl, hnm, rfl⟩) dX0_init_17 rfl hp9 (aw_nmH (fun h17 e9 => ?_))
  have hw := hw h17 e9
  refine aw_aload_n (pc := 20) C dX0_init_20 rfl rfl ?_
  refine aw_iconst (pc := 21) C dX0_init_21 (i := (0 : Int)) (by decide) ?_
  obtain ⟨hp9, hw⟩ := hw
  refine aw_putI (pc := 22) C (ci := 0) (k := 2) ci0 (by decide) tw209 (Or.inl rfl) dX0_init_22 rfl hp9 (aw_nmH (fun h22 e9 => ?_))
  have hw := hw h22 e9
  exact aw_vret (pc := 25) C hr dX0_init_25 ⟨Nat.le_of_ble_eq_true rfl, Nat.le_of_ble_eq_true rfl⟩ ⟨rfl, hw⟩
theorem dX6_isLetter_0 : decode cX6_isLetter 0 = .ok (.iload_n 0, 1) := by decide +kernel
theorem dX6_isLetter_1 : decode cX6_isLetter 1 = .ok (.bipush 97, 2) := by decide +kernel
theorem dX6_isLetter_3 : decode cX6_isLetter 3 = .ok (.if_icmp .lt 13, 3) := by decide +kernel
theorem dX6_isLetter_6 : decode cX6_isLetter 6 = .ok (.iload_n 0, 1) := by decide +kernel
theorem dX6_isLetter_7 : decode cX6_isLetter 7 = .ok (.bipush 122, 2) := by decide +kernel
theorem dX6_isLetter_9 : decode cX6_isLetter 9 = .ok (.if_icmp .gt 7, 3) := by decide +kernel
theorem dX6_isLetter_12 : decode cX6_isLetter 12 = .ok (.iconst 1, 1) := by decide +kernel
theorem dX6_isLetter_13 : decode cX6_isLetter 13 = .ok (.goto 4, 3) := by decide +kernel
theorem dX6_isLetter_16 : decode cX6_isLetter 16 = .ok (.iconst 0, 1) := by decide +kernel
theorem dX6_isLetter_17 : decode cX6_isLetter 17 = .ok (.ireturn, 1) := by decide +kernel
theorem pd_X6_isLetter : (parseMethodDescriptor yX6_isLetter.desc).map (fun d => d.parameters.length) = some 1 := by decide +kernel
def w_X6_isLetter (zz : Nat → Nat) (a0 : Int) (h : AH) (Q : Int → AH → Prop) : Prop := jn (fun (t0_17 : Int) (h_17 : AH) => (t0_17 = 0 ∨ t0_17 = 1) ∧ Q t0_17 h_17) (fun k_17 : Int → AH → Prop => jn (fun  (h_16 : AH) => k_17 (0 : Int) h_16) (fun k_16 : AH → Prop => ((a0 < (97 : Int)) → k_16  h) ∧ ((¬ (a0 < (97 : Int))) → (((122 : Int) < a0) → k_16  h) ∧ ((¬ ((122 : Int) < a0)) → k_17 (1 : Int) h))))
set_option maxRecDepth 100000 in
set_option maxHeartbeats 4000000 in
theorem met_X6_isLetter (G : GG) (l : Launch) : ∀ (As : List Value) (a0 : Int) (h : AH) (Q : Int → AH → Prop), As.map ab = List.map some ([vI a0] : List AV) → w_X6_isLetter G.2.2 a0 h Q → Met l yX6_isLetter (.code yX6_isLetter cX6_isLetter 1 (some .boolean) :: xTb) ({ frames := 0, cells := 0, slots := 0, locals := 0 } : Room) (PcA G As h) (QG G (oI Q)) 0 0 (frA G) := by
  intro As a0 h Q hA hw
  refine met_of hA (by decide) (Nat.le_of_ble_eq_true rfl) (fun p e s m args below meth c C hml hr hnm => ?_)
  unfold w_X6_isLetter at hw
  refine aw_iload_n (pc := 0) C dX6_isLetter_0 rfl rfl ?_
  refine aw_bipush (pc := 1) C dX6_isLetter_1 (i := (97 : Int)) (by decide) ?_
  obtain ⟨k_17, hk_17, hw⟩ := jn_out hw
  have J_17 : ∀ (t0_17 : Int) (h_17 : AH), k_17 t0_17 h_17 → AW G p l e ({ frames := 0, cells := 0, slots := 0, locals := 0 } : Room) s m args below meth c 0 0 (MQ below (QG G (oI Q)) args s 0 0 (frA G)) 17 (eOf []) [vI t0_17] h_17 := by
    intro t0_17 h_17 hw
    rw [hk_17] at hw
    obtain ⟨hp9, hw⟩ := hw
    exact aw_zret (pc := 17) C hr dX6_isLetter_17 ⟨Nat.le_of_ble_eq_true rfl, Nat.le_of_ble_eq_true rfl⟩ hp9 ⟨_, rfl, hw⟩
  obtain ⟨k_16, hk_16, hw⟩ := jn_out hw
  have J_16 : ∀  (h_16 : AH), k_16  h_16 → AW G p l e ({ frames := 0, cells := 0, slots := 0, locals := 0 } : Room) s m args below meth c 0 0 (MQ below (QG G (oI Q)) args s 0 0 (frA G)) 16 (eOf []) [] h_16 := by
    intro  h_16 hw
    rw [hk_16] at hw
    refine aw_iconst (pc := 16) C dX6_isLetter_16 (i := (0 : Int)) (by decide) ?_
    refine aw_sub [] trivial ?_
    exact J_17 _ _ hw
  refine aw_icmp_lt (pc := 3) (tgt := 16) C dX6_isLetter_3 (by decide) (fun hc9 => ?_) (fun hc9 => ?_)
  · have hw := hw.1 hc9
    refine aw_sub [] trivial ?_
    exact J_16  _ hw
  · have hw := hw.2 hc9
    refine aw_iload_n (pc := 6) C dX6_isLetter_6 rfl rfl ?_
    refine aw_bipush (pc := 7) C dX6_isLetter_7 (i := (122 : Int)) (by decide) ?_
    refine aw_icmp_gt (pc := 9) (tgt := 16) C dX6_isLetter_9 (by decide) (fun hc9 => ?_) (fun hc9 => ?_)
    · have hw := hw.1 hc9
      refine aw_sub [] trivial ?_
      exact J_16  _ hw
    · have hw := hw.2 hc9
      refine aw_iconst (pc := 12) C dX6_isLetter_12 (i := (1 : Int)) (by decide) ?_
      refine aw_goto (pc := 13) (tgt := 17) C dX6_isLetter_13 (by decide) ?_
      refine aw_sub [] trivial ?_
      exact J_17 _ _ hw
theorem dX0_read_0 : decode cX0_read 0 = .ok (.aload_n 0, 1) := by decide +kernel
theorem dX0_read_1 : decode cX0_read 1 = .ok (.getfield 15, 3) := by decide +kernel
theorem dX0_read_4 : decode cX0_read 4 = .ok (.bipush 32, 2) := by decide +kernel
theorem dX0_read_6 : decode cX0_read 6 = .ok (.invokestatic 22, 3) := by decide +kernel
theorem dX0_read_9 : decode cX0_read 9 = .ok (.iconst 0, 1) := by decide +kernel
theorem dX0_read_10 : decode cX0_read 10 = .ok (.istore_n 1, 1) := by decide +kernel
theorem dX0_read_11 : decode cX0_read 11 = .ok (.iconst 0, 1) := by decide +kernel
theorem dX0_read_12 : decode cX0_read 12 = .ok (.istore_n 2, 1) := by decide +kernel
theorem dX0_read_13 : decode cX0_read 13 = .ok (.iconst 0, 1) := by decide +kernel
theorem dX0_read_14 : decode cX0_read 14 = .ok (.istore_n 3, 1) := by decide +kernel
theorem dX0_read_15 : decode cX0_read 15 = .ok (.iconst 0, 1) := by decide +kernel
theorem dX0_read_16 : decode cX0_read 16 = .ok (.istore 4, 2) := by decide +kernel
theorem dX0_read_18 : decode cX0_read 18 = .ok (.iload 4, 2) := by decide +kernel
theorem dX0_read_20 : decode cX0_read 20 = .ok (.aload_n 0, 1) := by decide +kernel
theorem dX0_read_21 : decode cX0_read 21 = .ok (.getfield 18, 3) := by decide +kernel
theorem dX0_read_24 : decode cX0_read 24 = .ok (.if_icmp .ge 102, 3) := by decide +kernel
theorem dX0_read_27 : decode cX0_read 27 = .ok (.aload_n 0, 1) := by decide +kernel
theorem dX0_read_28 : decode cX0_read 28 = .ok (.getfield 9, 3) := by decide +kernel
theorem dX0_read_31 : decode cX0_read 31 = .ok (.iload 4, 2) := by decide +kernel
theorem dX0_read_33 : decode cX0_read 33 = .ok (.iaload, 1) := by decide +kernel
theorem dX0_read_34 : decode cX0_read 34 = .ok (.istore 5, 2) := by decide +kernel
theorem dX0_read_36 : decode cX0_read 36 = .ok (.iload 5, 2) := by decide +kernel
theorem dX0_read_38 : decode cX0_read 38 = .ok (.bipush 47, 2) := by decide +kernel
theorem dX0_read_40 : decode cX0_read 40 = .ok (.if_icmp .ne 16, 3) := by decide +kernel
theorem dX0_read_43 : decode cX0_read 43 = .ok (.iinc 1 1, 3) := by decide +kernel
theorem dX0_read_46 : decode cX0_read 46 = .ok (.iconst 0, 1) := by decide +kernel
theorem dX0_read_47 : decode cX0_read 47 = .ok (.istore_n 2, 1) := by decide +kernel
theorem dX0_read_48 : decode cX0_read 48 = .ok (.iload_n 1, 1) := by decide +kernel
theorem dX0_read_49 : decode cX0_read 49 = .ok (.iconst 5, 1) := by decide +kernel
theorem dX0_read_50 : decode cX0_read 50 = .ok (.if_icmp .lt 70, 3) := by decide +kernel
theorem dX0_read_53 : decode cX0_read 53 = .ok (.iload 4, 2) := by decide +kernel
theorem dX0_read_55 : decode cX0_read 55 = .ok (.ireturn, 1) := by decide +kernel
theorem dX0_read_56 : decode cX0_read 56 = .ok (.iload 5, 2) := by decide +kernel
theorem dX0_read_58 : decode cX0_read 58 = .ok (.bipush 46, 2) := by decide +kernel
theorem dX0_read_60 : decode cX0_read 60 = .ok (.if_icmp .ne 15, 3) := by decide +kernel
theorem dX0_read_63 : decode cX0_read 63 = .ok (.iload_n 2, 1) := by decide +kernel
theorem dX0_read_64 : decode cX0_read 64 = .ok (.bipush 16, 2) := by decide +kernel
theorem dX0_read_66 : decode cX0_read 66 = .ok (.if_icmp .ge 9, 3) := by decide +kernel
theorem dX0_read_69 : decode cX0_read 69 = .ok (.iinc 2 1, 3) := by decide +kernel
theorem dX0_read_72 : decode cX0_read 72 = .ok (.goto 48, 3) := by decide +kernel
theorem dX0_read_75 : decode cX0_read 75 = .ok (.iload 5, 2) := by decide +kernel
theorem dX0_read_77 : decode cX0_read 77 = .ok (.invokestatic 28, 3) := by decide +kernel
theorem dX0_read_80 : decode cX0_read 80 = .ok (.ifCond .eq 37, 3) := by decide +kernel
theorem dX0_read_83 : decode cX0_read 83 = .ok (.iload_n 2, 1) := by decide +kernel
theorem dX0_read_84 : decode cX0_read 84 = .ok (.bipush 16, 2) := by decide +kernel
theorem dX0_read_86 : decode cX0_read 86 = .ok (.if_icmp .ge 31, 3) := by decide +kernel
theorem dX0_read_89 : decode cX0_read 89 = .ok (.iload_n 3, 1) := by decide +kernel
theorem dX0_read_90 : decode cX0_read 90 = .ok (.bipush 40, 2) := by decide +kernel
theorem dX0_read_92 : decode cX0_read 92 = .ok (.if_icmp .ge 25, 3) := by decide +kernel
theorem dX0_read_95 : decode cX0_read 95 = .ok (.aload_n 0, 1) := by decide +kernel
theorem dX0_read_96 : decode cX0_read 96 = .ok (.getfield 15, 3) := by decide +kernel
theorem dX0_read_99 : decode cX0_read 99 = .ok (.bipush 16, 2) := by decide +kernel
theorem dX0_read_101 : decode cX0_read 101 = .ok (.iload_n 1, 1) := by decide +kernel
theorem dX0_read_102 : decode cX0_read 102 = .ok (.imul, 1) := by decide +kernel
theorem dX0_read_103 : decode cX0_read 103 = .ok (.iload_n 2, 1) := by decide +kernel
theorem dX0_read_104 : decode cX0_read 104 = .ok (.iadd, 1) := by decide +kernel
theorem dX0_read_105 : decode cX0_read 105 = .ok (.iload 5, 2) := by decide +kernel
theorem dX0_read_107 : decode cX0_read 107 = .ok (.iastore, 1) := by decide +kernel
theorem dX0_read_108 : decode cX0_read 108 = .ok (.iinc 2 1, 3) := by decide +kernel
theorem dX0_read_111 : decode cX0_read 111 = .ok (.iinc 3 1, 3) := by decide +kernel
theorem dX0_read_114 : decode cX0_read 114 = .ok (.goto 6, 3) := by decide +kernel
theorem dX0_read_117 : decode cX0_read 117 = .ok (.iload 4, 2) := by decide +kernel
theorem dX0_read_119 : decode cX0_read 119 = .ok (.ireturn, 1) := by decide +kernel
theorem dX0_read_120 : decode cX0_read 120 = .ok (.iinc 4 1, 3) := by decide +kernel
theorem dX0_read_123 : decode cX0_read 123 = .ok (.goto (-105), 3) := by decide +kernel
theorem dX0_read_126 : decode cX0_read 126 = .ok (.aload_n 0, 1) := by decide +kernel
theorem dX0_read_127 : decode cX0_read 127 = .ok (.getfield 18, 3) := by decide +kernel
theorem dX0_read_130 : decode cX0_read 130 = .ok (.ireturn, 1) := by decide +kernel
theorem pd_X0_read : (parseMethodDescriptor yX0_read.desc).map (fun d => d.parameters.length) = some 0 := by decide +kernel
def w_X0_read (zz : Nat → Nat) (a0 : Nat) (h : AH) (Q : Int → AH → Prop) : Prop := okA h a0 0 ∧ ∃ b1 : Nat, hfR h a0 1 = some b1 ∧ w_J7_fill_53178 zz b1 (32 : Int) h (fun  (h6 : AH) => ∃ I_18 : Nat → Int → Int → Int → Int → AH → Prop, (∃ n, I_18 n (0 : Int) (0 : Int) (0 : Int) (0 : Int) h6) ∧ ∀ (n_18 : Nat) (x1_18 : Int) (x2_18 : Int) (x3_18 : Int) (x4_18 : Int) (h_18 : AH), I_18 n_18 x1_18 x2_18 x3_18 x4_18 h_18 → (okA h_18 a0 0 ∧ (((hfI h_18 a0 2) ≤ x4_18) → okA h_18 a0 0 ∧ Q (hfI h_18 a0 2) h_18) ∧ ((¬ ((hfI h_18 a0 2) ≤ x4_18)) → okA h_18 a0 0 ∧ ∃ b28 : Nat, hfR h_18 a0 0 = some b28 ∧ okI h_18 b28 x4_18 ∧ ∀ x5_34 : Int, x5_34 = (haI h_18 b28 x4_18) → jn (fun (x1_120 : Int) (x2_120 : Int) (x3_120 : Int) (h_120 : AH) => inR (x4_18 + 1) ∧ ∀ x4_120 : Int, x4_120 = (x4_18 + 1) → ∃ m, m < n_18 ∧ I_18 m x1_120 x2_120 x3_120 x4_120 h_120) (fun k_120 : Int → Int → Int → AH → Prop => ((¬ x5_34 = (47 : Int)) → jn (fun  (h_75 : AH) => w_X6_isLetter zz x5_34 h_75 (fun (r77 : Int) (h77 : AH) => jn (fun  (h_117 : AH) => Q x4_18 h_117) (fun k_117 : AH → Prop => ((r77 = 0) → k_117  h77) ∧ ((¬ (r77 = 0)) → (((16 : Int) ≤ x2_18) → k_117  h77) ∧ ((¬ ((16 : Int) ≤ x2_18)) → (((40 : Int) ≤ x3_18) → k_117  h77) ∧ ((¬ ((40 : Int) ≤ x3_18)) → okA h77 a0 0 ∧ ∃ b96 : Nat, hfR h77 a0 1 = some b96 ∧ inR ((16 : Int) * x1_18) ∧ inR (((16 : Int) * x1_18) + x2_18) ∧ okW h77 b96 (((16 : Int) * x1_18) + x2_18) ∧ ∀ h107 : AH, h107 = saI h77 b96 (u1 (haI h77 b96) (((16 : Int) * x1_18) + x2_18) x5_34) → inR (x2_18 + 1) ∧ ∀ x2_108 : Int, x2_108 = (x2_18 + 1) → inR (x3_18 + 1) ∧ ∀ x3_111 : Int, x3_111 = (x3_18 + 1) → k_120 x1_18 x2_108 x3_111 h107)))))) (fun k_75 : AH → Prop => ((¬ x5_34 = (46 : Int)) → k_75  h_18) ∧ ((x5_34 = (46 : Int)) → (((16 : Int) ≤ x2_18) → k_75  h_18) ∧ ((¬ ((16 : Int) ≤ x2_18)) → inR (x2_18 + 1) ∧ ∀ x2_69 : Int, x2_69 = (x2_18 + 1) → k_120 x1_18 x2_69 x3_18 h_18)))) ∧ ((x5_34 = (47 : Int)) → inR (x1_18 + 1) ∧ ∀ x1_43 : Int, x1_43 = (x1_18 + 1) → ((x1_43 < (5 : Int)) → k_120 x1_43 (0 : Int) x3_18 h_18) ∧ ((¬ (x1_43 < (5 : Int))) → Q x4_18 h_18))))))
set_option maxRecDepth 100000 in
set_option maxHeartbeats 4000000 in
theorem met_X0_read (G : GG) (l : Launch) : ∀ (As : List Value) (a0 : Nat) (h : AH) (Q : Int → AH → Prop), As.map ab = List.map some ([vR a0] : List AV) → w_X0_read G.2.2 a0 h Q → Met l yX0_read (.code yX0_read cX0_read 6 (some .int) :: xTb) ({ frames := 1, cells := 0, slots := 0, locals := 23 } : Room) (PcA G As h) (QG G (oI Q)) 0 0 (frA G) := by
  intro As a0 h Q hA hw
  refine met_of hA (by decide) (Nat.le_of_ble_eq_true rfl) (fun p e s m args below meth c C hml hr hnm => ?_)
  unfold w_X0_read at hw
  refine aw_aload_n (pc := 0) C dX0_read_0 rfl rfl ?_
  obtain ⟨hp9, b1, hb9, hw⟩ := hw
  refine aw_getR (pc := 1) C (ci := 0) (k := 1) ci0 (by decide) tw207 dX0_read_1 rfl hp9 hb9 ?_
  refine aw_bipush (pc := 4) C dX0_read_4 (i := (32 : Int)) (by decide) ?_
  refine aw_callS (pc := 6) (as := [vR b1, vI (32 : Int)]) C (fun As hA => met_J7_fill_53178 G l As b1 (32 : Int) _ _ hA hw) tw676 tw38 tw4 tw39 ⟨rfl, rfl⟩ ⟨by decide, by decide, pd_J7_fill_53178⟩ ⟨Nat.le_of_ble_eq_true rfl, Nat.le_of_ble_eq_true rfl⟩ ⟨Nat.zero_le _, Nat.zero_le _⟩ (Nat.le_of_ble_eq_true rfl) dX0_read_6 rfl (fun v9 h6 hq9 => ?_)
  obtain ⟨rfl, hw⟩ := hq9
  refine aw_iconst (pc := 9) C dX0_read_9 (i := (0 : Int)) (by decide) ?_
  refine aw_istore_n (pc := 10) C dX0_read_10 rfl (by rw [hml]; decide) ?_
  refine aw_iconst (pc := 11) C dX0_read_11 (i := (0 : Int)) (by decide) ?_
  refine aw_istore_n (pc := 12) C dX0_read_12 rfl (by rw [hml]; decide) ?_
  refine aw_iconst (pc := 13) C dX0_read_13 (i := (0 : Int)) (by decide) ?_
  refine aw_istore_n (pc := 14) C dX0_read_14 rfl (by rw [hml]; decide) ?_
  refine aw_iconst (pc := 15) C dX0_read_15 (i := (0 : Int)) (by decide) ?_
  refine aw_istore (pc := 16) C dX0_read_16 (by rw [hml]; decide) ?_
  obtain ⟨I_18, ⟨n9, hi9⟩, hst9⟩ := hw
  have L_18 : ∀ (n_18 : Nat) (x1_18 : Int) (x2_18 : Int) (x3_18 : Int) (x4_18 : Int) (h_18 : AH), I_18 n_18 x1_18 x2_18 x3_18 x4_18 h_18 → AW G p l e ({ frames := 1, cells := 0, slots := 0, locals := 23 } : Room) s m args below meth c 0 0 (MQ below (QG G (oI Q)) args s 0 0 (frA G)) 18 (eOf [(0, vR a0), (1, vI x1_18), (2, vI x2_18), (3, vI x3_18), (4, vI x4_18)]) [] h_18 := by
    intro n_18
    induction n_18 using Nat.strongRecOn with
    | _ n_18 ih_18 =>
    intro x1_18 x2_18 x3_18 x4_18 h_18 hi9
    have hw := hst9 n_18 x1_18 x2_18 x3_18 x4_18 h_18 hi9
    refine aw_iload (pc := 18) C dX0_read_18 rfl ?_
    refine aw_aload_n (pc := 20) C dX0_read_20 rfl rfl ?_
    obtain ⟨hp9, hw⟩ := hw
    refine aw_getI (pc := 21) C (ci := 0) (k := 2) ci0 (by decide) tw209 dX0_read_21 rfl hp9 ?_
    refine aw_icmp_ge (pc := 24) (tgt := 126) C dX0_read_24 (by decide) (fun hc9 => ?_) (fun hc9 => ?_)
    · have hw := hw.1 hc9
      refine aw_aload_n (pc := 126) C dX0_read_126 rfl rfl ?_
      obtain ⟨hp9, hw⟩ := hw
      refine aw_getI (pc := 127) C (ci := 0) (k := 2) ci0 (by decide) tw209 dX0_read_127 rfl hp9 ?_
      exact aw_iret (pc := 130) C hr dX0_read_130 ⟨Nat.le_of_ble_eq_true rfl, Nat.le_of_ble_eq_true rfl⟩ ⟨_, rfl, hw⟩
    · have hw := hw.2 hc9
      refine aw_aload_n (pc := 27) C dX0_read_27 rfl rfl ?_
      obtain ⟨hp9, b28, hb9, hw⟩ := hw
      refine aw_getR (pc := 28) C (ci := 0) (k := 0) ci0 (by decide) tw205 dX0_read_28 rfl hp9 hb9 ?_
      refine aw_iload (pc := 31) C dX0_read_31 rfl ?_
      obtain ⟨⟨k9, hp9⟩, hw⟩ := hw
      refine aw_iald (pc := 33) C dX0_read_33 hp9 ?_
      refine aw_nmI (fun x5_34 e9 => ?_)
      have hw := hw x5_34 e9
      refine aw_istore (pc := 34) C dX0_read_34 (by rw [hml]; decide) ?_
      refine aw_iload (pc := 36) C dX0_read_36 rfl ?_
      refine aw_bipush (pc := 38) C dX0_read_38 (i := (47 : Int)) (by decide) ?_
      obtain ⟨k_120, hk_120, hw⟩ := jn_out hw
      have J_120 : ∀ (x1_120 : Int) (x2_120 : Int) (x3_120 : Int) (h_120 : AH), k_120 x1_120 x2_120 x3_120 h_120 → AW G p l e ({ frames := 1, cells := 0, slots := 0, locals := 23 } : Room) s m args below meth c 0 0 (MQ below (QG G (oI Q)) args s 0 0 (frA G)) 120 (eOf [(0, vR a0), (1, vI x1_120), (2, vI x2_120), (3, vI x3_120), (4, vI x4_18)]) [] h_120 := by
        intro x1_120 x2_120 x3_120 h_120 hw
        rw [hk_120] at hw
        obtain ⟨hp9, hw⟩ := hw
        refine aw_iincN (pc := 120) C dX0_read_120 (k := 1) (by decide) rfl (by rw [hml]; decide) hp9 (fun x4_120 e9 => ?_)
        have hw := hw x4_120 e9
        refine aw_goto (pc := 123) (tgt := 18) C dX0_read_123 (by decide) ?_
        obtain ⟨m9, hm9, hw⟩ := hw
        refine aw_sub [(0, vR a0), (1, vI x1_120), (2, vI x2_120), (3, vI x3_120), (4, vI x4_120)] ⟨rfl, rfl, rfl, rfl, rfl, trivial⟩ ?_
        exact ih_18 m9 hm9 _ _ _ _ _ hw
      refine aw_icmp_ne (pc := 40) (tgt := 56) C dX0_read_40 (by decide) (fun hc9 => ?_) (fun hc9 => ?_)
      · have hw := hw.1 hc9
        refine aw_iload (pc := 56) C dX0_read_56 rfl ?_
        refine aw_bipush (pc := 58) C dX0_read_58 (i := (46 : Int)) (by decide) ?_
        obtain ⟨k_75, hk_75, hw⟩ := jn_out hw
        have J_75 : ∀  (h_75 : AH), k_75  h_75 → AW G p l e ({ frames := 1, cells := 0, slots := 0, locals := 23 } : Room) s m args below meth c 0 0 (MQ below (QG G (oI Q)) args s 0 0 (frA G)) 75 (eOf [(0, vR a0), (1, vI x1_18), (2, vI x2_18), (3, vI x3_18), (4, vI x4_18), (5, vI x5_34)]) [] h_75 := by
          intro  h_75 hw
          rw [hk_75] at hw
          refine aw_iload (pc := 75) C dX0_read_75 rfl ?_
          refine aw_callSN (pc := 77) (as := [vI x5_34]) C (fun As hA => met_X6_isLetter G l As x5_34 _ _ hA hw) rfl tw678 tw1 tw679 ⟨rfl, rfl⟩ ⟨by decide, by decide, pd_X6_isLetter⟩ ⟨Nat.le_of_ble_eq_true rfl, Nat.le_of_ble_eq_true rfl⟩ ⟨Nat.zero_le _, Nat.zero_le _⟩ (Nat.le_of_ble_eq_true rfl) dX0_read_77 rfl (fun v9 h77 hq9 => ?_)
          obtain ⟨r77, rfl, hw⟩ := hq9
          obtain ⟨k_117, hk_117, hw⟩ := jn_out hw
          have J_117 : ∀  (h_117 : AH), k_117  h_117 → AW G p l e ({ frames := 1, cells := 0, slots := 0, locals := 23 } : Room) s m args below meth c 0 0 (MQ below (QG G (oI Q)) args s 0 0 (frA G)) 117 (eOf [(4, vI x4_18)]) [] h_117 := by
            intro  h_117 hw
            rw [hk_117] at hw
            refine aw_iload (pc := 117) C dX0_read_117 rfl ?_
            exact aw_iret (pc := 119) C hr dX0_read_119 ⟨Nat.le_of_ble_eq_true rfl, Nat.le_of_ble_eq_true rfl⟩ ⟨_, rfl, hw⟩
          refine aw_if_eq (pc := 80) (tgt := 117) C dX0_read_80 (by decide) (fun hc9 => ?_) (fun hc9 => ?_)
          · have hw := hw.1 hc9
            refine aw_sub [(4, vI x4_18)] ⟨rfl, trivial⟩ ?_
            exact J_117  _ hw
          · have hw := hw.2 hc9
            refine aw_iload_n (pc := 83) C dX0_read_83 rfl rfl ?_
            refine aw_bipush (pc := 84) C dX0_read_84 (i := (16 : Int)) (by decide) ?_
            refine aw_icmp_ge (pc := 86) (tgt := 117) C dX0_read_86 (by decide) (fun hc9 => ?_) (fun hc9 => ?_)
            · have hw := hw.1 hc9
              refine aw_sub [(4, vI x4_18)] ⟨rfl, trivial⟩ ?_
              exact J_117  _ hw
            · have hw := hw.2 hc9
              refine aw_iload_n (pc := 89) C dX0_read_89 rfl rfl ?_
              refine aw_bipush (pc := 90) C dX0_read_90 (i := (40 : Int)) (by decide) ?_
              refine aw_icmp_ge (pc := 92) (tgt := 117) C dX0_read_92 (by decide) (fun hc9 => ?_) (fun hc9 => ?_)
              · have hw := hw.1 hc9
                refine aw_sub [(4, vI x4_18)] ⟨rfl, trivial⟩ ?_
                exact J_117  _ hw
              · have hw := hw.2 hc9
                refine aw_aload_n (pc := 95) C dX0_read_95 rfl rfl ?_
                obtain ⟨hp9, b96, hb9, hw⟩ := hw
                refine aw_getR (pc := 96) C (ci := 0) (k := 1) ci0 (by decide) tw207 dX0_read_96 rfl hp9 hb9 ?_
                refine aw_bipush (pc := 99) C dX0_read_99 (i := (16 : Int)) (by decide) ?_
                refine aw_iload_n (pc := 101) C dX0_read_101 rfl rfl ?_
                obtain ⟨hp9, hw⟩ := hw
                refine aw_imul (pc := 102) C dX0_read_102 hp9 ?_
                refine aw_iload_n (pc := 103) C dX0_read_103 rfl rfl ?_
                obtain ⟨hp9, hw⟩ := hw
                refine aw_iadd (pc := 104) C dX0_read_104 hp9 ?_
                refine aw_iload (pc := 105) C dX0_read_105 rfl ?_
                obtain ⟨⟨k9, hp9⟩, hw⟩ := hw
                refine aw_iast (pc := 107) C dX0_read_107 hp9 (aw_nmH (fun h107 e9 => ?_))
                have hw := hw h107 e9
                obtain ⟨hp9, hw⟩ := hw
                refine aw_iincN (pc := 108) C dX0_read_108 (k := 1) (by decide) rfl (by rw [hml]; decide) hp9 (fun x2_108 e9 => ?_)
                have hw := hw x2_108 e9
                obtain ⟨hp9, hw⟩ := hw
                refine aw_iincN (pc := 111) C dX0_read_111 (k := 1) (by decide) rfl (by rw [hml]; decide) hp9 (fun x3_111 e9 => ?_)
                have hw := hw x3_111 e9
                refine aw_goto (pc := 114) (tgt := 120) C dX0_read_114 (by decide) ?_
                refine aw_sub [(0, vR a0), (1, vI x1_18), (2, vI x2_108), (3, vI x3_111), (4, vI x4_18)] ⟨rfl, rfl, rfl, rfl, rfl, trivial⟩ ?_
                exact J_120 _ _ _ _ hw
        refine aw_icmp_ne (pc := 60) (tgt := 75) C dX0_read_60 (by decide) (fun hc9 => ?_) (fun hc9 => ?_)
        · have hw := hw.1 hc9
          refine aw_sub [(0, vR a0), (1, vI x1_18), (2, vI x2_18), (3, vI x3_18), (4, vI x4_18), (5, vI x5_34)] ⟨rfl, rfl, rfl, rfl, rfl, rfl, trivial⟩ ?_
          exact J_75  _ hw
        · have hw := hw.2 hc9
          refine aw_iload_n (pc := 63) C dX0_read_63 rfl rfl ?_
          refine aw_bipush (pc := 64) C dX0_read_64 (i := (16 : Int)) (by decide) ?_
          refine aw_icmp_ge (pc := 66) (tgt := 75) C dX0_read_66 (by decide) (fun hc9 => ?_) (fun hc9 => ?_)
          · have hw := hw.1 hc9
            refine aw_sub [(0, vR a0), (1, vI x1_18), (2, vI x2_18), (3, vI x3_18), (4, vI x4_18), (5, vI x5_34)] ⟨rfl, rfl, rfl, rfl, rfl, rfl, trivial⟩ ?_
            exact J_75  _ hw
          · have hw := hw.2 hc9
            obtain ⟨hp9, hw⟩ := hw
            refine aw_iincN (pc := 69) C dX0_read_69 (k := 1) (by decide) rfl (by rw [hml]; decide) hp9 (fun x2_69 e9 => ?_)
            have hw := hw x2_69 e9
            refine aw_goto (pc := 72) (tgt := 120) C dX0_read_72 (by decide) ?_
            refine aw_sub [(0, vR a0), (1, vI x1_18), (2, vI x2_69), (3, vI x3_18), (4, vI x4_18)] ⟨rfl, rfl, rfl, rfl, rfl, trivial⟩ ?_
            exact J_120 _ _ _ _ hw
      · have hw := hw.2 hc9
        obtain ⟨hp9, hw⟩ := hw
        refine aw_iincN (pc := 43) C dX0_read_43 (k := 1) (by decide) rfl (by rw [hml]; decide) hp9 (fun x1_43 e9 => ?_)
        have hw := hw x1_43 e9
        refine aw_iconst (pc := 46) C dX0_read_46 (i := (0 : Int)) (by decide) ?_
        refine aw_istore_n (pc := 47) C dX0_read_47 rfl (by rw [hml]; decide) ?_
        refine aw_iload_n (pc := 48) C dX0_read_48 rfl rfl ?_
        refine aw_iconst (pc := 49) C dX0_read_49 (i := (5 : Int)) (by decide) ?_
        refine aw_icmp_lt (pc := 50) (tgt := 120) C dX0_read_50 (by decide) (fun hc9 => ?_) (fun hc9 => ?_)
        · have hw := hw.1 hc9
          refine aw_sub [(0, vR a0), (1, vI x1_43), (2, vI (0 : Int)), (3, vI x3_18), (4, vI x4_18)] ⟨rfl, rfl, rfl, rfl, rfl, trivial⟩ ?_
          exact J_120 _ _ _ _ hw
        · have hw := hw.2 hc9
          refine aw_iload (pc := 53) C dX0_read_53 rfl ?_
          exact aw_iret (pc := 55) C hr dX0_read_55 ⟨Nat.le_of_ble_eq_true rfl, Nat.le_of_ble_eq_true rfl⟩ ⟨_, rfl, hw⟩
  refine aw_sub [(0, vR a0), (1, vI (0 : Int)), (2, vI (0 : Int)), (3, vI (0 : Int)), (4, vI (0 : Int))] ⟨rfl, rfl, rfl, rfl, rfl, trivial⟩ ?_
  exact L_18 n9 _ _ _ _ _ hi9
theorem dX5_init_0 : decode cX5_init 0 = .ok (.aload_n 0, 1) := by decide +kernel
theorem dX5_init_1 : decode cX5_init 1 = .ok (.invokespecial 3, 3) := by decide +kernel
theorem dX5_init_4 : decode cX5_init 4 = .ok (.aload_n 0, 1) := by decide +kernel
theorem dX5_init_5 : decode cX5_init 5 = .ok (.bipush 80, 2) := by decide +kernel
theorem dX5_init_7 : decode cX5_init 7 = .ok (.newarray .int, 2) := by decide +kernel
theorem dX5_init_9 : decode cX5_init 9 = .ok (.putfield 9, 3) := by decide +kernel
theorem dX5_init_12 : decode cX5_init 12 = .ok (.aload_n 0, 1) := by decide +kernel
theorem dX5_init_13 : decode cX5_init 13 = .ok (.bipush 40, 2) := by decide +kernel
theorem dX5_init_15 : decode cX5_init 15 = .ok (.newarray .int, 2) := by decide +kernel
theorem dX5_init_17 : decode cX5_init 17 = .ok (.putfield 15, 3) := by decide +kernel
theorem dX5_init_20 : decode cX5_init 20 = .ok (.aload_n 0, 1) := by decide +kernel
theorem dX5_init_21 : decode cX5_init 21 = .ok (.iconst 0, 1) := by decide +kernel
theorem dX5_init_22 : decode cX5_init 22 = .ok (.putfield 18, 3) := by decide +kernel
theorem dX5_init_25 : decode cX5_init 25 = .ok (.aload_n 0, 1) := by decide +kernel
theorem dX5_init_26 : decode cX5_init 26 = .ok (.getfield 9, 3) := by decide +kernel
theorem dX5_init_29 : decode cX5_init 29 = .ok (.bipush 32, 2) := by decide +kernel
theorem dX5_init_31 : decode cX5_init 31 = .ok (.invokestatic 22, 3) := by decide +kernel
theorem dX5_init_34 : decode cX5_init 34 = .ok (.return_, 1) := by decide +kernel
theorem pd_X5_init : (parseMethodDescriptor yX5_init.desc).map (fun d => d.parameters.length) = some 0 := by decide +kernel
def w_X5_init (zz : Nat → Nat) (a0 : Nat) (h : AH) (Q : AH → Prop) : Prop := ∀ h7 : AH, h7 = nAI h 80 → okP h7 a0 5 ∧ ∀ h9 : AH, h9 = sfR h7 a0 0 (some (hn h)) → ∀ h15 : AH, h15 = nAI h9 40 → okP h15 a0 5 ∧ ∀ h17 : AH, h17 = sfR h15 a0 1 (some (hn h9)) → okP h17 a0 5 ∧ ∀ h22 : AH, h22 = sfI h17 a0 2 (0 : Int) → okA h22 a0 5 ∧ ∃ b26 : Nat, hfR h22 a0 0 = some b26 ∧ w_J7_fill_53178 zz b26 (32 : Int) h22 (fun  (h31 : AH) => Q h31)
set_option maxRecDepth 100000 in
set_option maxHeartbeats 4000000 in
theorem met_X5_init (G : GG) (l : Launch) : ∀ (As : List Value) (a0 : Nat) (h : AH) (Q : AH → Prop), As.map ab = List.map some ([vR a0] : List AV) → w_X5_init G.2.2 a0 h Q → Met l yX5_init (.code yX5_init cX5_init 1 none :: xTb) ({ frames := 1, cells := 2, slots := 120, locals := 23 } : Room) (PcA G As h) (QG G (oV Q)) 2 120 (frA G) := by
  intro As a0 h Q hA hw
  refine met_of hA (by decide) (Nat.le_of_ble_eq_true rfl) (fun p e s m args below meth c C hml hr hnm => ?_)
  unfold w_X5_init at hw
  refine aw_aload_n (pc := 0) C dX5_init_0 rfl rfl ?_
  refine aw_objInit (pc := 1) C tw36 tw23 tw24 ⟨Nat.le_of_ble_eq_true rfl, Nat.le_of_ble_eq_true rfl⟩ (Nat.le_of_ble_eq_true rfl) dX5_init_1 ?_
  refine aw_aload_n (pc := 4) C dX5_init_4 rfl rfl ?_
  refine aw_bipush (pc := 5) C dX5_init_5 (i := (80 : Int)) (by decide) ?_
  refine aw_newI (pc := 7) (n := 80) C tw57 dX5_init_7 (Nat.le_of_ble_eq_true rfl) (Nat.le_of_ble_eq_true rfl) (Nat.le_of_ble_eq_true rfl) (aw_nmH (fun h7 e9 => ?_))
  have hw := hw h7 e9
  obtain ⟨hp9, hw⟩ := hw
  refine aw_putR (pc := 9) C (ci := 5) (k := 0) ci5 (by decide) tw40 (Or.inr ⟨rfl, hnm, rfl⟩) dX5_init_9 rfl hp9 (aw_nmH (fun h9 e9 => ?_))
  have hw := hw h9 e9
  refine aw_aload_n (pc := 12) C dX5_init_12 rfl rfl ?_
  refine aw_bipush (pc := 13) C dX5_init_13 (i := (40 : Int)) (by decide) ?_
  refine aw_newI (pc := 15) (n := 40) C tw57 dX5_init_15 (Nat.le_of_ble_eq_true rfl) (Nat.le_of_ble_eq_true rfl) (Nat.le_of_ble_eq_true rfl) (aw_nmH (fun h15 e9 => ?_))
  have hw := hw h15 e9
  obtain ⟨hp9, hw⟩ := hw
  refine aw_putR (pc := 17) C (ci := 5) (k := 1) ci5 (by decide) tw42 (Or.inr ⟨rfl, hnm, rfl⟩) dX5_init_17 rfl hp9 (aw_nmH (fun h17 e9 => ?_))
  have hw := hw h17 e9
  refine aw_aload_n (pc := 20) C dX5_init_20 rfl rfl ?_
  refine aw_iconst (pc := 21) C dX5_init_21 (i := (0 : Int)) (by decide) ?_
  obtain ⟨hp9, hw⟩ := hw
  refine aw_putI (pc := 22) C (ci := 5) (k := 2) ci5 (by decide) tw45 (Or.inl rfl) dX5_init_22 rfl hp9 (aw_nmH (fun h22 e9 => ?_))
  have hw := hw h22 e9
  refine aw_aload_n (pc := 25) C dX5_init_25 rfl rfl ?_
  obtain ⟨hp9, b26, hb9, hw⟩ := hw
  refine aw_getR (pc := 26) C (ci := 5) (k := 0) ci5 (by decide) tw40 dX5_init_26 rfl hp9 hb9 ?_
  refine aw_bipush (pc := 29) C dX5_init_29 (i := (32 : Int)) (by decide) ?_
  refine aw_callS (pc := 31) (as := [vR b26, vI (32 : Int)]) C (fun As hA => met_J7_fill_53178 G l As b26 (32 : Int) _ _ hA hw) tw37 tw38 tw4 tw39 ⟨rfl, rfl⟩ ⟨by decide, by decide, pd_J7_fill_53178⟩ ⟨Nat.le_of_ble_eq_true rfl, Nat.le_of_ble_eq_true rfl⟩ ⟨(Nat.le_of_ble_eq_true rfl), (Nat.le_of_ble_eq_true rfl)⟩ (Nat.le_of_ble_eq_true rfl) dX5_init_31 rfl (fun v9 h31 hq9 => ?_)
  obtain ⟨rfl, hw⟩ := hq9
  exact aw_vret (pc := 34) C hr dX5_init_34 ⟨Nat.le_of_ble_eq_true rfl, Nat.le_of_ble_eq_true rfl⟩ ⟨rfl, hw⟩
theorem dX5_numberLetters_0 : decode cX5_numberLetters 0 = .ok (.aload_n 0, 1) := by decide +kernel
theorem dX5_numberLetters_1 : decode cX5_numberLetters 1 = .ok (.iconst 0, 1) := by decide +kernel
theorem dX5_numberLetters_2 : decode cX5_numberLetters 2 = .ok (.putfield 18, 3) := by decide +kernel
theorem dX5_numberLetters_5 : decode cX5_numberLetters 5 = .ok (.iconst 0, 1) := by decide +kernel
theorem dX5_numberLetters_6 : decode cX5_numberLetters 6 = .ok (.istore_n 1, 1) := by decide +kernel
theorem dX5_numberLetters_7 : decode cX5_numberLetters 7 = .ok (.iload_n 1, 1) := by decide +kernel
theorem dX5_numberLetters_8 : decode cX5_numberLetters 8 = .ok (.bipush 80, 2) := by decide +kernel
theorem dX5_numberLetters_10 : decode cX5_numberLetters 10 = .ok (.if_icmp .ge 49, 3) := by decide +kernel
theorem dX5_numberLetters_13 : decode cX5_numberLetters 13 = .ok (.aload_n 0, 1) := by decide +kernel
theorem dX5_numberLetters_14 : decode cX5_numberLetters 14 = .ok (.getfield 9, 3) := by decide +kernel
theorem dX5_numberLetters_17 : decode cX5_numberLetters 17 = .ok (.iload_n 1, 1) := by decide +kernel
theorem dX5_numberLetters_18 : decode cX5_numberLetters 18 = .ok (.iaload, 1) := by decide +kernel
theorem dX5_numberLetters_19 : decode cX5_numberLetters 19 = .ok (.bipush 32, 2) := by decide +kernel
theorem dX5_numberLetters_21 : decode cX5_numberLetters 21 = .ok (.if_icmp .eq 32, 3) := by decide +kernel
theorem dX5_numberLetters_24 : decode cX5_numberLetters 24 = .ok (.aload_n 0, 1) := by decide +kernel
theorem dX5_numberLetters_25 : decode cX5_numberLetters 25 = .ok (.getfield 18, 3) := by decide +kernel
theorem dX5_numberLetters_28 : decode cX5_numberLetters 28 = .ok (.bipush 40, 2) := by decide +kernel
theorem dX5_numberLetters_30 : decode cX5_numberLetters 30 = .ok (.if_icmp .ge 23, 3) := by decide +kernel
theorem dX5_numberLetters_33 : decode cX5_numberLetters 33 = .ok (.aload_n 0, 1) := by decide +kernel
theorem dX5_numberLetters_34 : decode cX5_numberLetters 34 = .ok (.getfield 15, 3) := by decide +kernel
theorem dX5_numberLetters_37 : decode cX5_numberLetters 37 = .ok (.aload_n 0, 1) := by decide +kernel
theorem dX5_numberLetters_38 : decode cX5_numberLetters 38 = .ok (.getfield 18, 3) := by decide +kernel
theorem dX5_numberLetters_41 : decode cX5_numberLetters 41 = .ok (.iload_n 1, 1) := by decide +kernel
theorem dX5_numberLetters_42 : decode cX5_numberLetters 42 = .ok (.iastore, 1) := by decide +kernel
theorem dX5_numberLetters_43 : decode cX5_numberLetters 43 = .ok (.aload_n 0, 1) := by decide +kernel
theorem dX5_numberLetters_44 : decode cX5_numberLetters 44 = .ok (.dup, 1) := by decide +kernel
theorem dX5_numberLetters_45 : decode cX5_numberLetters 45 = .ok (.getfield 18, 3) := by decide +kernel
theorem dX5_numberLetters_48 : decode cX5_numberLetters 48 = .ok (.iconst 1, 1) := by decide +kernel
theorem dX5_numberLetters_49 : decode cX5_numberLetters 49 = .ok (.iadd, 1) := by decide +kernel
theorem dX5_numberLetters_50 : decode cX5_numberLetters 50 = .ok (.putfield 18, 3) := by decide +kernel
theorem dX5_numberLetters_53 : decode cX5_numberLetters 53 = .ok (.iinc 1 1, 3) := by decide +kernel
theorem dX5_numberLetters_56 : decode cX5_numberLetters 56 = .ok (.goto (-49), 3) := by decide +kernel
theorem dX5_numberLetters_59 : decode cX5_numberLetters 59 = .ok (.return_, 1) := by decide +kernel
theorem pd_X5_numberLetters : (parseMethodDescriptor yX5_numberLetters.desc).map (fun d => d.parameters.length) = some 0 := by decide +kernel
def w_X5_numberLetters (zz : Nat → Nat) (a0 : Nat) (h : AH) (Q : AH → Prop) : Prop := okP h a0 5 ∧ ∀ h2 : AH, h2 = sfI h a0 2 (0 : Int) → ∃ I_7 : Nat → Int → AH → Prop, (∃ n, I_7 n (0 : Int) h2) ∧ ∀ (n_7 : Nat) (x1_7 : Int) (h_7 : AH), I_7 n_7 x1_7 h_7 → ((((80 : Int) ≤ x1_7) → Q h_7) ∧ ((¬ ((80 : Int) ≤ x1_7)) → okA h_7 a0 5 ∧ ∃ b14 : Nat, hfR h_7 a0 0 = some b14 ∧ okI h_7 b14 x1_7 ∧ jn (fun  (h_53 : AH) => inR (x1_7 + 1) ∧ ∀ x1_53 : Int, x1_53 = (x1_7 + 1) → ∃ m, m < n_7 ∧ I_7 m x1_53 h_53) (fun k_53 : AH → Prop => (((haI h_7 b14 x1_7) = (32 : Int)) → k_53  h_7) ∧ ((¬ ((haI h_7 b14 x1_7) = (32 : Int))) → okA h_7 a0 5 ∧ (((40 : Int) ≤ (hfI h_7 a0 2)) → k_53  h_7) ∧ ((¬ ((40 : Int) ≤ (hfI h_7 a0 2))) → okA h_7 a0 5 ∧ ∃ b34 : Nat, hfR h_7 a0 1 = some b34 ∧ okA h_7 a0 5 ∧ okW h_7 b34 (hfI h_7 a0 2) ∧ ∀ h42 : AH, h42 = saI h_7 b34 (u1 (haI h_7 b34) (hfI h_7 a0 2) x1_7) → okA h42 a0 5 ∧ inR ((hfI h42 a0 2) + (1 : Int)) ∧ okP h42 a0 5 ∧ ∀ h50 : AH, h50 = sfI h42 a0 2 ((hfI h42 a0 2) + (1 : Int)) → k_53  h50)))))
set_option maxRecDepth 100000 in
set_option maxHeartbeats 4000000 in
theorem met_X5_numberLetters (G : GG) (l : Launch) : ∀ (As : List Value) (a0 : Nat) (h : AH) (Q : AH → Prop), As.map ab = List.map some ([vR a0] : List AV) → w_X5_numberLetters G.2.2 a0 h Q → Met l yX5_numberLetters (.code yX5_numberLetters cX5_numberLetters 2 none :: xTb) ({ frames := 0, cells := 0, slots := 0, locals := 0 } : Room) (PcA G As h) (QG G (oV Q)) 0 0 (frA G) := by
  intro As a0 h Q hA hw
  refine met_of hA (by decide) (Nat.le_of_ble_eq_true rfl) (fun p e s m args below meth c C hml hr hnm => ?_)
  unfold w_X5_numberLetters at hw
  refine aw_aload_n (pc := 0) C dX5_numberLetters_0 rfl rfl ?_
  refine aw_iconst (pc := 1) C dX5_numberLetters_1 (i := (0 : Int)) (by decide) ?_
  obtain ⟨hp9, hw⟩ := hw
  refine aw_putI (pc := 2) C (ci := 5) (k := 2) ci5 (by decide) tw45 (Or.inl rfl) dX5_numberLetters_2 rfl hp9 (aw_nmH (fun h2 e9 => ?_))
  have hw := hw h2 e9
  refine aw_iconst (pc := 5) C dX5_numberLetters_5 (i := (0 : Int)) (by decide) ?_
  refine aw_istore_n (pc := 6) C dX5_numberLetters_6 rfl (by rw [hml]; decide) ?_
  obtain ⟨I_7, ⟨n9, hi9⟩, hst9⟩ := hw
  have L_7 : ∀ (n_7 : Nat) (x1_7 : Int) (h_7 : AH), I_7 n_7 x1_7 h_7 → AW G p l e ({ frames := 0, cells := 0, slots := 0, locals := 0 } : Room) s m args below meth c 0 0 (MQ below (QG G (oV Q)) args s 0 0 (frA G)) 7 (eOf [(0, vR a0), (1, vI x1_7)]) [] h_7 := by
    intro n_7
    induction n_7 using Nat.strongRecOn with
    | _ n_7 ih_7 =>
    intro x1_7 h_7 hi9
    have hw := hst9 n_7 x1_7 h_7 hi9
    refine aw_iload_n (pc := 7) C dX5_numberLetters_7 rfl rfl ?_
    refine aw_bipush (pc := 8) C dX5_numberLetters_8 (i := (80 : Int)) (by decide) ?_
    refine aw_icmp_ge (pc := 10) (tgt := 59) C dX5_numberLetters_10 (by decide) (fun hc9 => ?_) (fun hc9 => ?_)
    · have hw := hw.1 hc9
      exact aw_vret (pc := 59) C hr dX5_numberLetters_59 ⟨Nat.le_of_ble_eq_true rfl, Nat.le_of_ble_eq_true rfl⟩ ⟨rfl, hw⟩
    · have hw := hw.2 hc9
      refine aw_aload_n (pc := 13) C dX5_numberLetters_13 rfl rfl ?_
      obtain ⟨hp9, b14, hb9, hw⟩ := hw
      refine aw_getR (pc := 14) C (ci := 5) (k := 0) ci5 (by decide) tw40 dX5_numberLetters_14 rfl hp9 hb9 ?_
      refine aw_iload_n (pc := 17) C dX5_numberLetters_17 rfl rfl ?_
      obtain ⟨⟨k9, hp9⟩, hw⟩ := hw
      refine aw_iald (pc := 18) C dX5_numberLetters_18 hp9 ?_
      refine aw_bipush (pc := 19) C dX5_numberLetters_19 (i := (32 : Int)) (by decide) ?_
      obtain ⟨k_53, hk_53, hw⟩ := jn_out hw
      have J_53 : ∀  (h_53 : AH), k_53  h_53 → AW G p l e ({ frames := 0, cells := 0, slots := 0, locals := 0 } : Room) s m args below meth c 0 0 (MQ below (QG G (oV Q)) args s 0 0 (frA G)) 53 (eOf [(0, vR a0), (1, vI x1_7)]) [] h_53 := by
        intro  h_53 hw
        rw [hk_53] at hw
        obtain ⟨hp9, hw⟩ := hw
        refine aw_iincN (pc := 53) C dX5_numberLetters_53 (k := 1) (by decide) rfl (by rw [hml]; decide) hp9 (fun x1_53 e9 => ?_)
        have hw := hw x1_53 e9
        refine aw_goto (pc := 56) (tgt := 7) C dX5_numberLetters_56 (by decide) ?_
        obtain ⟨m9, hm9, hw⟩ := hw
        refine aw_sub [(0, vR a0), (1, vI x1_53)] ⟨rfl, rfl, trivial⟩ ?_
        exact ih_7 m9 hm9 _ _ hw
      refine aw_icmp_eq (pc := 21) (tgt := 53) C dX5_numberLetters_21 (by decide) (fun hc9 => ?_) (fun hc9 => ?_)
      · have hw := hw.1 hc9
        refine aw_sub [(0, vR a0), (1, vI x1_7)] ⟨rfl, rfl, trivial⟩ ?_
        exact J_53  _ hw
      · have hw := hw.2 hc9
        refine aw_aload_n (pc := 24) C dX5_numberLetters_24 rfl rfl ?_
        obtain ⟨hp9, hw⟩ := hw
        refine aw_getI (pc := 25) C (ci := 5) (k := 2) ci5 (by decide) tw45 dX5_numberLetters_25 rfl hp9 ?_
        refine aw_bipush (pc := 28) C dX5_numberLetters_28 (i := (40 : Int)) (by decide) ?_
        refine aw_icmp_ge (pc := 30) (tgt := 53) C dX5_numberLetters_30 (by decide) (fun hc9 => ?_) (fun hc9 => ?_)
        · have hw := hw.1 hc9
          refine aw_sub [(0, vR a0), (1, vI x1_7)] ⟨rfl, rfl, trivial⟩ ?_
          exact J_53  _ hw
        · have hw := hw.2 hc9
          refine aw_aload_n (pc := 33) C dX5_numberLetters_33 rfl rfl ?_
          obtain ⟨hp9, b34, hb9, hw⟩ := hw
          refine aw_getR (pc := 34) C (ci := 5) (k := 1) ci5 (by decide) tw42 dX5_numberLetters_34 rfl hp9 hb9 ?_
          refine aw_aload_n (pc := 37) C dX5_numberLetters_37 rfl rfl ?_
          obtain ⟨hp9, hw⟩ := hw
          refine aw_getI (pc := 38) C (ci := 5) (k := 2) ci5 (by decide) tw45 dX5_numberLetters_38 rfl hp9 ?_
          refine aw_iload_n (pc := 41) C dX5_numberLetters_41 rfl rfl ?_
          obtain ⟨⟨k9, hp9⟩, hw⟩ := hw
          refine aw_iast (pc := 42) C dX5_numberLetters_42 hp9 (aw_nmH (fun h42 e9 => ?_))
          have hw := hw h42 e9
          refine aw_aload_n (pc := 43) C dX5_numberLetters_43 rfl rfl ?_
          refine aw_dup (pc := 44) C dX5_numberLetters_44 rfl ?_
          obtain ⟨hp9, hw⟩ := hw
          refine aw_getI (pc := 45) C (ci := 5) (k := 2) ci5 (by decide) tw45 dX5_numberLetters_45 rfl hp9 ?_
          refine aw_iconst (pc := 48) C dX5_numberLetters_48 (i := (1 : Int)) (by decide) ?_
          obtain ⟨hp9, hw⟩ := hw
          refine aw_iadd (pc := 49) C dX5_numberLetters_49 hp9 ?_
          obtain ⟨hp9, hw⟩ := hw
          refine aw_putI (pc := 50) C (ci := 5) (k := 2) ci5 (by decide) tw45 (Or.inl rfl) dX5_numberLetters_50 rfl hp9 (aw_nmH (fun h50 e9 => ?_))
          have hw := hw h50 e9
          refine aw_sub [(0, vR a0), (1, vI x1_7)] ⟨rfl, rfl, trivial⟩ ?_
          exact J_53  _ hw
  refine aw_sub [(0, vR a0), (1, vI (0 : Int))] ⟨rfl, rfl, trivial⟩ ?_
  exact L_7 n9 _ _ hi9
theorem dX5_takeCodes_0 : decode cX5_takeCodes 0 = .ok (.aload_n 1, 1) := by decide +kernel
theorem dX5_takeCodes_1 : decode cX5_takeCodes 1 = .ok (.iconst 0, 1) := by decide +kernel
theorem dX5_takeCodes_2 : decode cX5_takeCodes 2 = .ok (.aload_n 0, 1) := by decide +kernel
theorem dX5_takeCodes_3 : decode cX5_takeCodes 3 = .ok (.getfield 9, 3) := by decide +kernel
theorem dX5_takeCodes_6 : decode cX5_takeCodes 6 = .ok (.iconst 0, 1) := by decide +kernel
theorem dX5_takeCodes_7 : decode cX5_takeCodes 7 = .ok (.bipush 80, 2) := by decide +kernel
theorem dX5_takeCodes_9 : decode cX5_takeCodes 9 = .ok (.invokestatic 28, 3) := by decide +kernel
theorem dX5_takeCodes_12 : decode cX5_takeCodes 12 = .ok (.aload_n 0, 1) := by decide +kernel
theorem dX5_takeCodes_13 : decode cX5_takeCodes 13 = .ok (.invokevirtual 34, 3) := by decide +kernel
theorem dX5_takeCodes_16 : decode cX5_takeCodes 16 = .ok (.return_, 1) := by decide +kernel
theorem pd_X5_takeCodes : (parseMethodDescriptor yX5_takeCodes.desc).map (fun d => d.parameters.length) = some 1 := by decide +kernel
def w_X5_takeCodes (zz : Nat → Nat) (a0 : Nat) (a1 : Nat) (h : AH) (Q : AH → Prop) : Prop := okA h a0 5 ∧ ∃ b3 : Nat, hfR h a0 0 = some b3 ∧ okC h a1 (0 : Int) b3 (0 : Int) (80 : Int) ∧ ∀ h9 : AH, h9 = saI h b3 (cpI (haI h a1) (haI h b3) (0 : Int) (0 : Int) (80 : Int)) → okA h9 a0 5 ∧ w_X5_numberLetters zz a0 h9 (fun  (h13 : AH) => Q h13)
set_option maxRecDepth 100000 in
set_option maxHeartbeats 4000000 in
theorem met_X5_takeCodes (G : GG) (l : Launch) : ∀ (As : List Value) (a0 : Nat) (a1 : Nat) (h : AH) (Q : AH → Prop), As.map ab = List.map some ([vR a0, vR a1] : List AV) → w_X5_takeCodes G.2.2 a0 a1 h Q → Met l yX5_takeCodes (.code yX5_takeCodes cX5_takeCodes 2 none :: xTb) ({ frames := 1, cells := 0, slots := 0, locals := 40 } : Room) (PcA G As h) (QG G (oV Q)) 0 0 (frA G) := by
  intro As a0 a1 h Q hA hw
  refine met_of hA (by decide) (Nat.le_of_ble_eq_true rfl) (fun p e s m args below meth c C hml hr hnm => ?_)
  unfold w_X5_takeCodes at hw
  refine aw_aload_n (pc := 0) C dX5_takeCodes_0 rfl rfl ?_
  refine aw_iconst (pc := 1) C dX5_takeCodes_1 (i := (0 : Int)) (by decide) ?_
  refine aw_aload_n (pc := 2) C dX5_takeCodes_2 rfl rfl ?_
  obtain ⟨hp9, b3, hb9, hw⟩ := hw
  refine aw_getR (pc := 3) C (ci := 5) (k := 0) ci5 (by decide) tw40 dX5_takeCodes_3 rfl hp9 hb9 ?_
  refine aw_iconst (pc := 6) C dX5_takeCodes_6 (i := (0 : Int)) (by decide) ?_
  refine aw_bipush (pc := 7) C dX5_takeCodes_7 (i := (80 : Int)) (by decide) ?_
  obtain ⟨⟨ka9, kb9, ha9, hb9, hz9⟩, hw⟩ := hw
  refine aw_copy (pc := 9) C tw698 tw62 tw61 tw5 ⟨Nat.le_of_ble_eq_true rfl, Nat.le_of_ble_eq_true rfl⟩ (Nat.le_of_ble_eq_true rfl) dX5_takeCodes_9 ha9 hb9 hz9 (aw_nmH (fun h9 e9 => ?_))
  have hw := hw h9 e9
  refine aw_aload_n (pc := 12) C dX5_takeCodes_12 rfl rfl ?_
  obtain ⟨hp9, hw⟩ := hw
  refine aw_callV (pc := 13) (as := []) C ci5 (fun As hA => met_X5_numberLetters G l As a0 _ _ hA hw) tw703 tw705 (tbp 30 (n := 3) (by decide +kernel)) tw3 tw706 ⟨rfl, rfl⟩ ⟨rfl, by decide, by decide, pd_X5_numberLetters⟩ ⟨Nat.le_of_ble_eq_true rfl, Nat.le_of_ble_eq_true rfl⟩ ⟨Nat.zero_le _, Nat.zero_le _⟩ (Nat.le_of_ble_eq_true rfl) dX5_takeCodes_13 rfl hp9 (fun v9 h13 hq9 => ?_)
  obtain ⟨rfl, hw⟩ := hq9
  exact aw_vret (pc := 16) C hr dX5_takeCodes_16 ⟨Nat.le_of_ble_eq_true rfl, Nat.le_of_ble_eq_true rfl⟩ ⟨rfl, hw⟩
theorem dX5_copyFrom_0 : decode cX5_copyFrom 0 = .ok (.aload_n 1, 1) := by decide +kernel
theorem dX5_copyFrom_1 : decode cX5_copyFrom 1 = .ok (.getfield 9, 3) := by decide +kernel
theorem dX5_copyFrom_4 : decode cX5_copyFrom 4 = .ok (.iconst 0, 1) := by decide +kernel
theorem dX5_copyFrom_5 : decode cX5_copyFrom 5 = .ok (.aload_n 0, 1) := by decide +kernel
theorem dX5_copyFrom_6 : decode cX5_copyFrom 6 = .ok (.getfield 9, 3) := by decide +kernel
theorem dX5_copyFrom_9 : decode cX5_copyFrom 9 = .ok (.iconst 0, 1) := by decide +kernel
theorem dX5_copyFrom_10 : decode cX5_copyFrom 10 = .ok (.bipush 80, 2) := by decide +kernel
theorem dX5_copyFrom_12 : decode cX5_copyFrom 12 = .ok (.invokestatic 28, 3) := by decide +kernel
theorem dX5_copyFrom_15 : decode cX5_copyFrom 15 = .ok (.aload_n 1, 1) := by decide +kernel
theorem dX5_copyFrom_16 : decode cX5_copyFrom 16 = .ok (.getfield 15, 3) := by decide +kernel
theorem dX5_copyFrom_19 : decode cX5_copyFrom 19 = .ok (.iconst 0, 1) := by decide +kernel
theorem dX5_copyFrom_20 : decode cX5_copyFrom 20 = .ok (.aload_n 0, 1) := by decide +kernel
theorem dX5_copyFrom_21 : decode cX5_copyFrom 21 = .ok (.getfield 15, 3) := by decide +kernel
theorem dX5_copyFrom_24 : decode cX5_copyFrom 24 = .ok (.iconst 0, 1) := by decide +kernel
theorem dX5_copyFrom_25 : decode cX5_copyFrom 25 = .ok (.bipush 40, 2) := by decide +kernel
theorem dX5_copyFrom_27 : decode cX5_copyFrom 27 = .ok (.invokestatic 28, 3) := by decide +kernel
theorem dX5_copyFrom_30 : decode cX5_copyFrom 30 = .ok (.aload_n 0, 1) := by decide +kernel
theorem dX5_copyFrom_31 : decode cX5_copyFrom 31 = .ok (.aload_n 1, 1) := by decide +kernel
theorem dX5_copyFrom_32 : decode cX5_copyFrom 32 = .ok (.getfield 18, 3) := by decide +kernel
theorem dX5_copyFrom_35 : decode cX5_copyFrom 35 = .ok (.putfield 18, 3) := by decide +kernel
theorem dX5_copyFrom_38 : decode cX5_copyFrom 38 = .ok (.return_, 1) := by decide +kernel
theorem pd_X5_copyFrom : (parseMethodDescriptor yX5_copyFrom.desc).map (fun d => d.parameters.length) = some 1 := by decide +kernel
def w_X5_copyFrom (zz : Nat → Nat) (a0 : Nat) (a1 : Nat) (h : AH) (Q : AH → Prop) : Prop := okA h a1 5 ∧ ∃ b1 : Nat, hfR h a1 0 = some b1 ∧ okA h a0 5 ∧ ∃ b6 : Nat, hfR h a0 0 = some b6 ∧ okC h b1 (0 : Int) b6 (0 : Int) (80 : Int) ∧ ∀ h12 : AH, h12 = saI h b6 (cpI (haI h b1) (haI h b6) (0 : Int) (0 : Int) (80 : Int)) → okA h12 a1 5 ∧ ∃ b16 : Nat, hfR h12 a1 1 = some b16 ∧ okA h12 a0 5 ∧ ∃ b21 : Nat, hfR h12 a0 1 = some b21 ∧ okC h12 b16 (0 : Int) b21 (0 : Int) (40 : Int) ∧ ∀ h27 : AH, h27 = saI h12 b21 (cpI (haI h12 b16) (haI h12 b21) (0 : Int) (0 : Int) (40 : Int)) → okA h27 a1 5 ∧ okP h27 a0 5 ∧ ∀ h35 : AH, h35 = sfI h27 a0 2 (hfI h27 a1 2) → Q h35
set_option maxRecDepth 100000 in
set_option maxHeartbeats 4000000 in
theorem met_X5_copyFrom (G : GG) (l : Launch) : ∀ (As : List Value) (a0 : Nat) (a1 : Nat) (h : AH) (Q : AH → Prop), As.map ab = List.map some ([vR a0, vR a1] : List AV) → w_X5_copyFrom G.2.2 a0 a1 h Q → Met l yX5_copyFrom (.code yX5_copyFrom cX5_copyFrom 2 none :: xTb) ({ frames := 1, cells := 0, slots := 0, locals := 40 } : Room) (PcA G As h) (QG G (oV Q)) 0 0 (frA G) := by
  intro As a0 a1 h Q hA hw
  refine met_of hA (by decide) (Nat.le_of_ble_eq_true rfl) (fun p e s m args below meth c C hml hr hnm => ?_)
  unfold w_X5_copyFrom at hw
  refine aw_aload_n (pc := 0) C dX5_copyFrom_0 rfl rfl ?_
  obtain ⟨hp9, b1, hb9, hw⟩ := hw
  refine aw_getR (pc := 1) C (ci := 5) (k := 0) ci5 (by decide) tw40 dX5_copyFrom_1 rfl hp9 hb9 ?_
  refine aw_iconst (pc := 4) C dX5_copyFrom_4 (i := (0 : Int)) (by decide) ?_
  refine aw_aload_n (pc := 5) C dX5_copyFrom_5 rfl rfl ?_
  obtain ⟨hp9, b6, hb9, hw⟩ := hw
  refine aw_getR (pc := 6) C (ci := 5) (k := 0) ci5 (by decide) tw40 dX5_copyFrom_6 rfl hp9 hb9 ?_
  refine aw_iconst (pc := 9) C dX5_copyFrom_9 (i := (0 : Int)) (by decide) ?_
  refine aw_bipush (pc := 10) C dX5_copyFrom_10 (i := (80 : Int)) (by decide) ?_
  obtain ⟨⟨ka9, kb9, ha9, hb9, hz9⟩, hw⟩ := hw
  refine aw_copy (pc := 12) C tw698 tw62 tw61 tw5 ⟨Nat.le_of_ble_eq_true rfl, Nat.le_of_ble_eq_true rfl⟩ (Nat.le_of_ble_eq_true rfl) dX5_copyFrom_12 ha9 hb9 hz9 (aw_nmH (fun h12 e9 => ?_))
  have hw := hw h12 e9
  refine aw_aload_n (pc := 15) C dX5_copyFrom_15 rfl rfl ?_
  obtain ⟨hp9, b16, hb9, hw⟩ := hw
  refine aw_getR (pc := 16) C (ci := 5) (k := 1) ci5 (by decide) tw42 dX5_copyFrom_16 rfl hp9 hb9 ?_
  refine aw_iconst (pc := 19) C dX5_copyFrom_19 (i := (0 : Int)) (by decide) ?_
  refine aw_aload_n (pc := 20) C dX5_copyFrom_20 rfl rfl ?_
  obtain ⟨hp9, b21, hb9, hw⟩ := hw
  refine aw_getR (pc := 21) C (ci := 5) (k := 1) ci5 (by decide) tw42 dX5_copyFrom_21 rfl hp9 hb9 ?_
  refine aw_iconst (pc := 24) C dX5_copyFrom_24 (i := (0 : Int)) (by decide) ?_
  refine aw_bipush (pc := 25) C dX5_copyFrom_25 (i := (40 : Int)) (by decide) ?_
  obtain ⟨⟨ka9, kb9, ha9, hb9, hz9⟩, hw⟩ := hw
  refine aw_copy (pc := 27) C tw698 tw62 tw61 tw5 ⟨Nat.le_of_ble_eq_true rfl, Nat.le_of_ble_eq_true rfl⟩ (Nat.le_of_ble_eq_true rfl) dX5_copyFrom_27 ha9 hb9 hz9 (aw_nmH (fun h27 e9 => ?_))
  have hw := hw h27 e9
  refine aw_aload_n (pc := 30) C dX5_copyFrom_30 rfl rfl ?_
  refine aw_aload_n (pc := 31) C dX5_copyFrom_31 rfl rfl ?_
  obtain ⟨hp9, hw⟩ := hw
  refine aw_getI (pc := 32) C (ci := 5) (k := 2) ci5 (by decide) tw45 dX5_copyFrom_32 rfl hp9 ?_
  obtain ⟨hp9, hw⟩ := hw
  refine aw_putI (pc := 35) C (ci := 5) (k := 2) ci5 (by decide) tw45 (Or.inl rfl) dX5_copyFrom_35 rfl hp9 (aw_nmH (fun h35 e9 => ?_))
  have hw := hw h35 e9
  exact aw_vret (pc := 38) C hr dX5_copyFrom_38 ⟨Nat.le_of_ble_eq_true rfl, Nat.le_of_ble_eq_true rfl⟩ ⟨rfl, hw⟩
theorem dX5_write_0 : decode cX5_write 0 = .ok (.aload_n 0, 1) := by decide +kernel
theorem dX5_write_1 : decode cX5_write 1 = .ok (.getfield 9, 3) := by decide +kernel
theorem dX5_write_4 : decode cX5_write 4 = .ok (.iload_n 1, 1) := by decide +kernel
theorem dX5_write_5 : decode cX5_write 5 = .ok (.iload_n 2, 1) := by decide +kernel
theorem dX5_write_6 : decode cX5_write 6 = .ok (.iastore, 1) := by decide +kernel
theorem dX5_write_7 : decode cX5_write 7 = .ok (.aload_n 0, 1) := by decide +kernel
theorem dX5_write_8 : decode cX5_write 8 = .ok (.invokevirtual 34, 3) := by decide +kernel
theorem dX5_write_11 : decode cX5_write 11 = .ok (.return_, 1) := by decide +kernel
theorem pd_X5_write : (parseMethodDescriptor yX5_write.desc).map (fun d => d.parameters.length) = some 2 := by decide +kernel
def w_X5_write (zz : Nat → Nat) (a0 : Nat) (a1 : Int) (a2 : Int) (h : AH) (Q : AH → Prop) : Prop := okA h a0 5 ∧ ∃ b1 : Nat, hfR h a0 0 = some b1 ∧ okW h b1 a1 ∧ ∀ h6 : AH, h6 = saI h b1 (u1 (haI h b1) a1 a2) → okA h6 a0 5 ∧ w_X5_numberLetters zz a0 h6 (fun  (h8 : AH) => Q h8)
set_option maxRecDepth 100000 in
set_option maxHeartbeats 4000000 in
theorem met_X5_write (G : GG) (l : Launch) : ∀ (As : List Value) (a0 : Nat) (a1 : Int) (a2 : Int) (h : AH) (Q : AH → Prop), As.map ab = List.map some ([vR a0, vI a1, vI a2] : List AV) → w_X5_write G.2.2 a0 a1 a2 h Q → Met l yX5_write (.code yX5_write cX5_write 3 none :: xTb) ({ frames := 1, cells := 0, slots := 0, locals := 21 } : Room) (PcA G As h) (QG G (oV Q)) 0 0 (frA G) := by
  intro As a0 a1 a2 h Q hA hw
  refine met_of hA (by decide) (Nat.le_of_ble_eq_true rfl) (fun p e s m args below meth c C hml hr hnm => ?_)
  unfold w_X5_write at hw
  refine aw_aload_n (pc := 0) C dX5_write_0 rfl rfl ?_
  obtain ⟨hp9, b1, hb9, hw⟩ := hw
  refine aw_getR (pc := 1) C (ci := 5) (k := 0) ci5 (by decide) tw40 dX5_write_1 rfl hp9 hb9 ?_
  refine aw_iload_n (pc := 4) C dX5_write_4 rfl rfl ?_
  refine aw_iload_n (pc := 5) C dX5_write_5 rfl rfl ?_
  obtain ⟨⟨k9, hp9⟩, hw⟩ := hw
  refine aw_iast (pc := 6) C dX5_write_6 hp9 (aw_nmH (fun h6 e9 => ?_))
  have hw := hw h6 e9
  refine aw_aload_n (pc := 7) C dX5_write_7 rfl rfl ?_
  obtain ⟨hp9, hw⟩ := hw
  refine aw_callV (pc := 8) (as := []) C ci5 (fun As hA => met_X5_numberLetters G l As a0 _ _ hA hw) tw703 tw705 (tbp 30 (n := 3) (by decide +kernel)) tw3 tw706 ⟨rfl, rfl⟩ ⟨rfl, by decide, by decide, pd_X5_numberLetters⟩ ⟨Nat.le_of_ble_eq_true rfl, Nat.le_of_ble_eq_true rfl⟩ ⟨Nat.zero_le _, Nat.zero_le _⟩ (Nat.le_of_ble_eq_true rfl) dX5_write_8 rfl hp9 (fun v9 h8 hq9 => ?_)
  obtain ⟨rfl, hw⟩ := hq9
  exact aw_vret (pc := 11) C hr dX5_write_11 ⟨Nat.le_of_ble_eq_true rfl, Nat.le_of_ble_eq_true rfl⟩ ⟨rfl, hw⟩
theorem dX5_rowOf_0 : decode cX5_rowOf 0 = .ok (.aload_n 0, 1) := by decide +kernel
theorem dX5_rowOf_1 : decode cX5_rowOf 1 = .ok (.getfield 15, 3) := by decide +kernel
theorem dX5_rowOf_4 : decode cX5_rowOf 4 = .ok (.iload_n 1, 1) := by decide +kernel
theorem dX5_rowOf_5 : decode cX5_rowOf 5 = .ok (.iaload, 1) := by decide +kernel
theorem dX5_rowOf_6 : decode cX5_rowOf 6 = .ok (.bipush 16, 2) := by decide +kernel
theorem dX5_rowOf_8 : decode cX5_rowOf 8 = .ok (.idiv, 1) := by decide +kernel
theorem dX5_rowOf_9 : decode cX5_rowOf 9 = .ok (.ireturn, 1) := by decide +kernel
theorem pd_X5_rowOf : (parseMethodDescriptor yX5_rowOf.desc).map (fun d => d.parameters.length) = some 1 := by decide +kernel
def w_X5_rowOf (zz : Nat → Nat) (a0 : Nat) (a1 : Int) (h : AH) (Q : Int → AH → Prop) : Prop := okA h a0 5 ∧ ∃ b1 : Nat, hfR h a0 1 = some b1 ∧ okI h b1 a1 ∧ (0 ≤ (haI h b1 a1) ∧ 0 < (16 : Int)) ∧ Q ((haI h b1 a1) / (16 : Int)) h
set_option maxRecDepth 100000 in
set_option maxHeartbeats 4000000 in
theorem met_X5_rowOf (G : GG) (l : Launch) : ∀ (As : List Value) (a0 : Nat) (a1 : Int) (h : AH) (Q : Int → AH → Prop), As.map ab = List.map some ([vR a0, vI a1] : List AV) → w_X5_rowOf G.2.2 a0 a1 h Q → Met l yX5_rowOf (.code yX5_rowOf cX5_rowOf 2 (some .int) :: xTb) ({ frames := 0, cells := 0, slots := 0, locals := 0 } : Room) (PcA G As h) (QG G (oI Q)) 0 0 (frA G) := by
  intro As a0 a1 h Q hA hw
  refine met_of hA (by decide) (Nat.le_of_ble_eq_true rfl) (fun p e s m args below meth c C hml hr hnm => ?_)
  unfold w_X5_rowOf at hw
  refine aw_aload_n (pc := 0) C dX5_rowOf_0 rfl rfl ?_
  obtain ⟨hp9, b1, hb9, hw⟩ := hw
  refine aw_getR (pc := 1) C (ci := 5) (k := 1) ci5 (by decide) tw42 dX5_rowOf_1 rfl hp9 hb9 ?_
  refine aw_iload_n (pc := 4) C dX5_rowOf_4 rfl rfl ?_
  obtain ⟨⟨k9, hp9⟩, hw⟩ := hw
  refine aw_iald (pc := 5) C dX5_rowOf_5 hp9 ?_
  refine aw_bipush (pc := 6) C dX5_rowOf_6 (i := (16 : Int)) (by decide) ?_
  obtain ⟨hp9, hw⟩ := hw
  refine aw_idiv (pc := 8) C dX5_rowOf_8 hp9 ?_
  exact aw_iret (pc := 9) C hr dX5_rowOf_9 ⟨Nat.le_of_ble_eq_true rfl, Nat.le_of_ble_eq_true rfl⟩ ⟨_, rfl, hw⟩
theorem dX5_columnOf_0 : decode cX5_columnOf 0 = .ok (.aload_n 0, 1) := by decide +kernel
theorem dX5_columnOf_1 : decode cX5_columnOf 1 = .ok (.getfield 15, 3) := by decide +kernel
theorem dX5_columnOf_4 : decode cX5_columnOf 4 = .ok (.iload_n 1, 1) := by decide +kernel
theorem dX5_columnOf_5 : decode cX5_columnOf 5 = .ok (.iaload, 1) := by decide +kernel
theorem dX5_columnOf_6 : decode cX5_columnOf 6 = .ok (.bipush 16, 2) := by decide +kernel
theorem dX5_columnOf_8 : decode cX5_columnOf 8 = .ok (.irem, 1) := by decide +kernel
theorem dX5_columnOf_9 : decode cX5_columnOf 9 = .ok (.ireturn, 1) := by decide +kernel
theorem pd_X5_columnOf : (parseMethodDescriptor yX5_columnOf.desc).map (fun d => d.parameters.length) = some 1 := by decide +kernel
def w_X5_columnOf (zz : Nat → Nat) (a0 : Nat) (a1 : Int) (h : AH) (Q : Int → AH → Prop) : Prop := okA h a0 5 ∧ ∃ b1 : Nat, hfR h a0 1 = some b1 ∧ okI h b1 a1 ∧ (0 ≤ (haI h b1 a1) ∧ 0 < (16 : Int)) ∧ Q ((haI h b1 a1) % (16 : Int)) h
set_option maxRecDepth 100000 in
set_option maxHeartbeats 4000000 in
theorem met_X5_columnOf (G : GG) (l : Launch) : ∀ (As : List Value) (a0 : Nat) (a1 : Int) (h : AH) (Q : Int → AH → Prop), As.map ab = List.map some ([vR a0, vI a1] : List AV) → w_X5_columnOf G.2.2 a0 a1 h Q → Met l yX5_columnOf (.code yX5_columnOf cX5_columnOf 2 (some .int) :: xTb) ({ frames := 0, cells := 0, slots := 0, locals := 0 } : Room) (PcA G As h) (QG G (oI Q)) 0 0 (frA G) := by
  intro As a0 a1 h Q hA hw
  refine met_of hA (by decide) (Nat.le_of_ble_eq_true rfl) (fun p e s m args below meth c C hml hr hnm => ?_)
  unfold w_X5_columnOf at hw
  refine aw_aload_n (pc := 0) C dX5_columnOf_0 rfl rfl ?_
  obtain ⟨hp9, b1, hb9, hw⟩ := hw
  refine aw_getR (pc := 1) C (ci := 5) (k := 1) ci5 (by decide) tw42 dX5_columnOf_1 rfl hp9 hb9 ?_
  refine aw_iload_n (pc := 4) C dX5_columnOf_4 rfl rfl ?_
  obtain ⟨⟨k9, hp9⟩, hw⟩ := hw
  refine aw_iald (pc := 5) C dX5_columnOf_5 hp9 ?_
  refine aw_bipush (pc := 6) C dX5_columnOf_6 (i := (16 : Int)) (by decide) ?_
  obtain ⟨hp9, hw⟩ := hw
  refine aw_irem (pc := 8) C dX5_columnOf_8 hp9 ?_
  exact aw_iret (pc := 9) C hr dX5_columnOf_9 ⟨Nat.le_of_ble_eq_true rfl, Nat.le_of_ble_eq_true rfl⟩ ⟨_, rfl, hw⟩
theorem dX5_codeOf_0 : decode cX5_codeOf 0 = .ok (.aload_n 0, 1) := by decide +kernel
theorem dX5_codeOf_1 : decode cX5_codeOf 1 = .ok (.getfield 9, 3) := by decide +kernel
theorem dX5_codeOf_4 : decode cX5_codeOf 4 = .ok (.aload_n 0, 1) := by decide +kernel
theorem dX5_codeOf_5 : decode cX5_codeOf 5 = .ok (.getfield 15, 3) := by decide +kernel
theorem dX5_codeOf_8 : decode cX5_codeOf 8 = .ok (.iload_n 1, 1) := by decide +kernel
theorem dX5_codeOf_9 : decode cX5_codeOf 9 = .ok (.iaload, 1) := by decide +kernel
theorem dX5_codeOf_10 : decode cX5_codeOf 10 = .ok (.iaload, 1) := by decide +kernel
theorem dX5_codeOf_11 : decode cX5_codeOf 11 = .ok (.ireturn, 1) := by decide +kernel
theorem pd_X5_codeOf : (parseMethodDescriptor yX5_codeOf.desc).map (fun d => d.parameters.length) = some 1 := by decide +kernel
def w_X5_codeOf (zz : Nat → Nat) (a0 : Nat) (a1 : Int) (h : AH) (Q : Int → AH → Prop) : Prop := okA h a0 5 ∧ ∃ b1 : Nat, hfR h a0 0 = some b1 ∧ okA h a0 5 ∧ ∃ b5 : Nat, hfR h a0 1 = some b5 ∧ okI h b5 a1 ∧ okI h b1 (haI h b5 a1) ∧ Q (haI h b1 (haI h b5 a1)) h
set_option maxRecDepth 100000 in
set_option maxHeartbeats 4000000 in
theorem met_X5_codeOf (G : GG) (l : Launch) : ∀ (As : List Value) (a0 : Nat) (a1 : Int) (h : AH) (Q : Int → AH → Prop), As.map ab = List.map some ([vR a0, vI a1] : List AV) → w_X5_codeOf G.2.2 a0 a1 h Q → Met l yX5_codeOf (.code yX5_codeOf cX5_codeOf 2 (some .int) :: xTb) ({ frames := 0, cells := 0, slots := 0, locals := 0 } : Room) (PcA G As h) (QG G (oI Q)) 0 0 (frA G) := by
  intro As a0 a1 h Q hA hw
  refine met_of hA (by decide) (Nat.le_of_ble_eq_true rfl) (fun p e s m args below meth c C hml hr hnm => ?_)
  unfold w_X5_codeOf at hw
  refine aw_aload_n (pc := 0) C dX5_codeOf_0 rfl rfl ?_
  obtain ⟨hp9, b1, hb9, hw⟩ := hw
  refine aw_getR (pc := 1) C (ci := 5) (k := 0) ci5 (by decide) tw40 dX5_codeOf_1 rfl hp9 hb9 ?_
  refine aw_aload_n (pc := 4) C dX5_codeOf_4 rfl rfl ?_
  obtain ⟨hp9, b5, hb9, hw⟩ := hw
  refine aw_getR (pc := 5) C (ci := 5) (k := 1) ci5 (by decide) tw42 dX5_codeOf_5 rfl hp9 hb9 ?_
  refine aw_iload_n (pc := 8) C dX5_codeOf_8 rfl rfl ?_
  obtain ⟨⟨k9, hp9⟩, hw⟩ := hw
  refine aw_iald (pc := 9) C dX5_codeOf_9 hp9 ?_
  obtain ⟨⟨k9, hp9⟩, hw⟩ := hw
  refine aw_iald (pc := 10) C dX5_codeOf_10 hp9 ?_
  exact aw_iret (pc := 11) C hr dX5_codeOf_11 ⟨Nat.le_of_ble_eq_true rfl, Nat.le_of_ble_eq_true rfl⟩ ⟨_, rfl, hw⟩
theorem dX4_init_0 : decode cX4_init 0 = .ok (.aload_n 0, 1) := by decide +kernel
theorem dX4_init_1 : decode cX4_init 1 = .ok (.invokespecial 3, 3) := by decide +kernel
theorem dX4_init_4 : decode cX4_init 4 = .ok (.aload_n 0, 1) := by decide +kernel
theorem dX4_init_5 : decode cX4_init 5 = .ok (.bipush 8, 2) := by decide +kernel
theorem dX4_init_7 : decode cX4_init 7 = .ok (.newarray .int, 2) := by decide +kernel
theorem dX4_init_9 : decode cX4_init 9 = .ok (.putfield 9, 3) := by decide +kernel
theorem dX4_init_12 : decode cX4_init 12 = .ok (.aload_n 0, 1) := by decide +kernel
theorem dX4_init_13 : decode cX4_init 13 = .ok (.new 15, 3) := by decide +kernel
theorem dX4_init_16 : decode cX4_init 16 = .ok (.dup, 1) := by decide +kernel
theorem dX4_init_17 : decode cX4_init 17 = .ok (.invokespecial 17, 3) := by decide +kernel
theorem dX4_init_20 : decode cX4_init 20 = .ok (.putfield 18, 3) := by decide +kernel
theorem dX4_init_23 : decode cX4_init 23 = .ok (.aload_n 0, 1) := by decide +kernel
theorem dX4_init_24 : decode cX4_init 24 = .ok (.new 15, 3) := by decide +kernel
theorem dX4_init_27 : decode cX4_init 27 = .ok (.dup, 1) := by decide +kernel
theorem dX4_init_28 : decode cX4_init 28 = .ok (.invokespecial 17, 3) := by decide +kernel
theorem dX4_init_31 : decode cX4_init 31 = .ok (.putfield 22, 3) := by decide +kernel
theorem dX4_init_34 : decode cX4_init 34 = .ok (.getstatic 25, 3) := by decide +kernel
theorem dX4_init_37 : decode cX4_init 37 = .ok (.iconst 0, 1) := by decide +kernel
theorem dX4_init_38 : decode cX4_init 38 = .ok (.aload_n 0, 1) := by decide +kernel
theorem dX4_init_39 : decode cX4_init 39 = .ok (.getfield 9, 3) := by decide +kernel
theorem dX4_init_42 : decode cX4_init 42 = .ok (.iconst 0, 1) := by decide +kernel
theorem dX4_init_43 : decode cX4_init 43 = .ok (.bipush 8, 2) := by decide +kernel
theorem dX4_init_45 : decode cX4_init 45 = .ok (.invokestatic 28, 3) := by decide +kernel
theorem dX4_init_48 : decode cX4_init 48 = .ok (.return_, 1) := by decide +kernel
theorem pd_X4_init : (parseMethodDescriptor yX4_init.desc).map (fun d => d.parameters.length) = some 0 := by decide +kernel
def w_X4_init (zz : Nat → Nat) (a0 : Nat) (h : AH) (Q : AH → Prop) : Prop := ∀ h7 : AH, h7 = nAI h 8 → okP h7 a0 4 ∧ ∀ h9 : AH, h9 = sfR h7 a0 0 (some (hn h)) → ∀ h13 : AH, h13 = nOb h9 5 → w_X5_init zz (hn h9) h13 (fun  (h17 : AH) => okP h17 a0 4 ∧ ∀ h20 : AH, h20 = sfR h17 a0 1 (some (hn h9)) → ∀ h24 : AH, h24 = nOb h20 5 → w_X5_init zz (hn h20) h24 (fun  (h28 : AH) => okP h28 a0 4 ∧ ∀ h31 : AH, h31 = sfR h28 a0 2 (some (hn h20)) → okA h31 a0 4 ∧ ∃ b39 : Nat, hfR h31 a0 0 = some b39 ∧ okC h31 (zz 2) (0 : Int) b39 (0 : Int) (8 : Int) ∧ ∀ h45 : AH, h45 = saI h31 b39 (cpI (haI h31 (zz 2)) (haI h31 b39) (0 : Int) (0 : Int) (8 : Int)) → Q h45))
set_option maxRecDepth 100000 in
set_option maxHeartbeats 4000000 in
theorem met_X4_init (G : GG) (l : Launch) : ∀ (As : List Value) (a0 : Nat) (h : AH) (Q : AH → Prop), As.map ab = List.map some ([vR a0] : List AV) → w_X4_init G.2.2 a0 h Q → Met l yX4_init (.code yX4_init cX4_init 1 none :: xTb) ({ frames := 2, cells := 7, slots := 254, locals := 43 } : Room) (PcA G As h) (QG G (oV Q)) 7 254 (frA G) := by
  intro As a0 h Q hA hw
  refine met_of hA (by decide) (Nat.le_of_ble_eq_true rfl) (fun p e s m args below meth c C hml hr hnm => ?_)
  unfold w_X4_init at hw
  refine aw_aload_n (pc := 0) C dX4_init_0 rfl rfl ?_
  refine aw_objInit (pc := 1) C tw30 tw23 tw24 ⟨Nat.le_of_ble_eq_true rfl, Nat.le_of_ble_eq_true rfl⟩ (Nat.le_of_ble_eq_true rfl) dX4_init_1 ?_
  refine aw_aload_n (pc := 4) C dX4_init_4 rfl rfl ?_
  refine aw_bipush (pc := 5) C dX4_init_5 (i := (8 : Int)) (by decide) ?_
  refine aw_newI (pc := 7) (n := 8) C tw57 dX4_init_7 (Nat.le_of_ble_eq_true rfl) (Nat.le_of_ble_eq_true rfl) (Nat.le_of_ble_eq_true rfl) (aw_nmH (fun h7 e9 => ?_))
  have hw := hw h7 e9
  obtain ⟨hp9, hw⟩ := hw
  refine aw_putR (pc := 9) C (ci := 4) (k := 0) ci4 (by decide) tw63 (Or.inr ⟨rfl, hnm, rfl⟩) dX4_init_9 rfl hp9 (aw_nmH (fun h9 e9 => ?_))
  have hw := hw h9 e9
  refine aw_aload_n (pc := 12) C dX4_init_12 rfl rfl ?_
  refine aw_new (pc := 13) C ci5 tw31 tw32 tw3 (by decide) dX4_init_13 (Nat.le_of_ble_eq_true rfl) (Nat.le_of_ble_eq_true rfl) (aw_nmH (fun h13 e9 => ?_))
  have hw := hw h13 e9
  refine aw_dup (pc := 16) C dX4_init_16 rfl ?_
  refine aw_callI (pc := 17) (as := []) C (fun As hA => met_X5_init G l As (hn h9) _ _ hA hw) tw33 tw34 tw3 tw35 ⟨rfl, rfl⟩ rfl ⟨by decide, by decide, pd_X5_init⟩ ⟨Nat.le_of_ble_eq_true rfl, Nat.le_of_ble_eq_true rfl⟩ ⟨(Nat.le_of_ble_eq_true rfl), (Nat.le_of_ble_eq_true rfl)⟩ (Nat.le_of_ble_eq_true rfl) dX4_init_17 rfl (fun v9 h17 hq9 => ?_)
  obtain ⟨rfl, hw⟩ := hq9
  obtain ⟨hp9, hw⟩ := hw
  refine aw_putR (pc := 20) C (ci := 4) (k := 1) ci4 (by decide) tw68 (Or.inl rfl) dX4_init_20 rfl hp9 (aw_nmH (fun h20 e9 => ?_))
  have hw := hw h20 e9
  refine aw_aload_n (pc := 23) C dX4_init_23 rfl rfl ?_
  refine aw_new (pc := 24) C ci5 tw31 tw32 tw3 (by decide) dX4_init_24 (Nat.le_of_ble_eq_true rfl) (Nat.le_of_ble_eq_true rfl) (aw_nmH (fun h24 e9 => ?_))
  have hw := hw h24 e9
  refine aw_dup (pc := 27) C dX4_init_27 rfl ?_
  refine aw_callI (pc := 28) (as := []) C (fun As hA => met_X5_init G l As (hn h20) _ _ hA hw) tw33 tw34 tw3 tw35 ⟨rfl, rfl⟩ rfl ⟨by decide, by decide, pd_X5_init⟩ ⟨Nat.le_of_ble_eq_true rfl, Nat.le_of_ble_eq_true rfl⟩ ⟨(Nat.le_of_ble_eq_true rfl), (Nat.le_of_ble_eq_true rfl)⟩ (Nat.le_of_ble_eq_true rfl) dX4_init_28 rfl (fun v9 h28 hq9 => ?_)
  obtain ⟨rfl, hw⟩ := hq9
  obtain ⟨hp9, hw⟩ := hw
  refine aw_putR (pc := 31) C (ci := 4) (k := 2) ci4 (by decide) tw69 (Or.inl rfl) dX4_init_31 rfl hp9 (aw_nmH (fun h31 e9 => ?_))
  have hw := hw h31 e9
  refine aw_getsN (pc := 34) C C.2.2.2.2.2.2.1.2.2.1 rfl dX4_init_34 ?_
  refine aw_iconst (pc := 37) C dX4_init_37 (i := (0 : Int)) (by decide) ?_
  refine aw_aload_n (pc := 38) C dX4_init_38 rfl rfl ?_
  obtain ⟨hp9, b39, hb9, hw⟩ := hw
  refine aw_getR (pc := 39) C (ci := 4) (k := 0) ci4 (by decide) tw63 dX4_init_39 rfl hp9 hb9 ?_
  refine aw_iconst (pc := 42) C dX4_init_42 (i := (0 : Int)) (by decide) ?_
  refine aw_bipush (pc := 43) C dX4_init_43 (i := (8 : Int)) (by decide) ?_
  obtain ⟨⟨ka9, kb9, ha9, hb9, hz9⟩, hw⟩ := hw
  refine aw_copy (pc := 45) C tw60 tw62 tw61 tw5 ⟨Nat.le_of_ble_eq_true rfl, Nat.le_of_ble_eq_true rfl⟩ (Nat.le_of_ble_eq_true rfl) dX4_init_45 ha9 hb9 hz9 (aw_nmH (fun h45 e9 => ?_))
  have hw := hw h45 e9
  exact aw_vret (pc := 48) C hr dX4_init_48 ⟨Nat.le_of_ble_eq_true rfl, Nat.le_of_ble_eq_true rfl⟩ ⟨rfl, hw⟩
theorem dX4_text_0 : decode cX4_text 0 = .ok (.iload_n 1, 1) := by decide +kernel
theorem dX4_text_1 : decode cX4_text 1 = .ok (.ifCond .ne 10, 3) := by decide +kernel
theorem dX4_text_4 : decode cX4_text 4 = .ok (.aload_n 0, 1) := by decide +kernel
theorem dX4_text_5 : decode cX4_text 5 = .ok (.getfield 18, 3) := by decide +kernel
theorem dX4_text_8 : decode cX4_text 8 = .ok (.goto 7, 3) := by decide +kernel
theorem dX4_text_11 : decode cX4_text 11 = .ok (.aload_n 0, 1) := by decide +kernel
theorem dX4_text_12 : decode cX4_text 12 = .ok (.getfield 22, 3) := by decide +kernel
theorem dX4_text_15 : decode cX4_text 15 = .ok (.areturn, 1) := by decide +kernel
theorem pd_X4_text : (parseMethodDescriptor yX4_text.desc).map (fun d => d.parameters.length) = some 1 := by decide +kernel
def w_X4_text (zz : Nat → Nat) (a0 : Nat) (a1 : Int) (h : AH) (Q : Nat → AH → Prop) : Prop := jn (fun (t0_15 : Nat) (h_15 : AH) => Q t0_15 h_15) (fun k_15 : Nat → AH → Prop => ((¬ a1 = 0) → okA h a0 4 ∧ ∃ b12 : Nat, hfR h a0 2 = some b12 ∧ k_15 b12 h) ∧ ((a1 = 0) → okA h a0 4 ∧ ∃ b5 : Nat, hfR h a0 1 = some b5 ∧ k_15 b5 h))
set_option maxRecDepth 100000 in
set_option maxHeartbeats 4000000 in
theorem met_X4_text (G : GG) (l : Launch) : ∀ (As : List Value) (a0 : Nat) (a1 : Int) (h : AH) (Q : Nat → AH → Prop), As.map ab = List.map some ([vR a0, vI a1] : List AV) → w_X4_text G.2.2 a0 a1 h Q → Met l yX4_text (.code yX4_text cX4_text 2 (some (.object "TextMorph$Text")) :: xTb) ({ frames := 0, cells := 0, slots := 0, locals := 0 } : Room) (PcA G As h) (QG G (oR Q)) 0 0 (frA G) := by
  intro As a0 a1 h Q hA hw
  refine met_of hA (by decide) (Nat.le_of_ble_eq_true rfl) (fun p e s m args below meth c C hml hr hnm => ?_)
  unfold w_X4_text at hw
  refine aw_iload_n (pc := 0) C dX4_text_0 rfl rfl ?_
  obtain ⟨k_15, hk_15, hw⟩ := jn_out hw
  have J_15 : ∀ (t0_15 : Nat) (h_15 : AH), k_15 t0_15 h_15 → AW G p l e ({ frames := 0, cells := 0, slots := 0, locals := 0 } : Room) s m args below meth c 0 0 (MQ below (QG G (oR Q)) args s 0 0 (frA G)) 15 (eOf []) [vR t0_15] h_15 := by
    intro t0_15 h_15 hw
    rw [hk_15] at hw
    exact aw_aret (pc := 15) C hr dX4_text_15 ⟨Nat.le_of_ble_eq_true rfl, Nat.le_of_ble_eq_true rfl⟩ ⟨_, rfl, hw⟩
  refine aw_if_ne (pc := 1) (tgt := 11) C dX4_text_1 (by decide) (fun hc9 => ?_) (fun hc9 => ?_)
  · have hw := hw.1 hc9
    refine aw_aload_n (pc := 11) C dX4_text_11 rfl rfl ?_
    obtain ⟨hp9, b12, hb9, hw⟩ := hw
    refine aw_getR (pc := 12) C (ci := 4) (k := 2) ci4 (by decide) tw69 dX4_text_12 rfl hp9 hb9 ?_
    refine aw_sub [] trivial ?_
    exact J_15 _ _ hw
  · have hw := hw.2 hc9
    refine aw_aload_n (pc := 4) C dX4_text_4 rfl rfl ?_
    obtain ⟨hp9, b5, hb9, hw⟩ := hw
    refine aw_getR (pc := 5) C (ci := 4) (k := 1) ci4 (by decide) tw68 dX4_text_5 rfl hp9 hb9 ?_
    refine aw_goto (pc := 8) (tgt := 15) C dX4_text_8 (by decide) ?_
    refine aw_sub [] trivial ?_
    exact J_15 _ _ hw
theorem dX4_copyFrom_0 : decode cX4_copyFrom 0 = .ok (.aload_n 0, 1) := by decide +kernel
theorem dX4_copyFrom_1 : decode cX4_copyFrom 1 = .ok (.getfield 18, 3) := by decide +kernel
theorem dX4_copyFrom_4 : decode cX4_copyFrom 4 = .ok (.aload_n 1, 1) := by decide +kernel
theorem dX4_copyFrom_5 : decode cX4_copyFrom 5 = .ok (.getfield 18, 3) := by decide +kernel
theorem dX4_copyFrom_8 : decode cX4_copyFrom 8 = .ok (.invokevirtual 37, 3) := by decide +kernel
theorem dX4_copyFrom_11 : decode cX4_copyFrom 11 = .ok (.aload_n 0, 1) := by decide +kernel
theorem dX4_copyFrom_12 : decode cX4_copyFrom 12 = .ok (.getfield 22, 3) := by decide +kernel
theorem dX4_copyFrom_15 : decode cX4_copyFrom 15 = .ok (.aload_n 1, 1) := by decide +kernel
theorem dX4_copyFrom_16 : decode cX4_copyFrom 16 = .ok (.getfield 22, 3) := by decide +kernel
theorem dX4_copyFrom_19 : decode cX4_copyFrom 19 = .ok (.invokevirtual 37, 3) := by decide +kernel
theorem dX4_copyFrom_22 : decode cX4_copyFrom 22 = .ok (.aload_n 1, 1) := by decide +kernel
theorem dX4_copyFrom_23 : decode cX4_copyFrom 23 = .ok (.getfield 9, 3) := by decide +kernel
theorem dX4_copyFrom_26 : decode cX4_copyFrom 26 = .ok (.iconst 0, 1) := by decide +kernel
theorem dX4_copyFrom_27 : decode cX4_copyFrom 27 = .ok (.aload_n 0, 1) := by decide +kernel
theorem dX4_copyFrom_28 : decode cX4_copyFrom 28 = .ok (.getfield 9, 3) := by decide +kernel
theorem dX4_copyFrom_31 : decode cX4_copyFrom 31 = .ok (.iconst 0, 1) := by decide +kernel
theorem dX4_copyFrom_32 : decode cX4_copyFrom 32 = .ok (.bipush 8, 2) := by decide +kernel
theorem dX4_copyFrom_34 : decode cX4_copyFrom 34 = .ok (.invokestatic 28, 3) := by decide +kernel
theorem dX4_copyFrom_37 : decode cX4_copyFrom 37 = .ok (.return_, 1) := by decide +kernel
theorem pd_X4_copyFrom : (parseMethodDescriptor yX4_copyFrom.desc).map (fun d => d.parameters.length) = some 1 := by decide +kernel
def w_X4_copyFrom (zz : Nat → Nat) (a0 : Nat) (a1 : Nat) (h : AH) (Q : AH → Prop) : Prop := okA h a0 4 ∧ ∃ b1 : Nat, hfR h a0 1 = some b1 ∧ okA h a1 4 ∧ ∃ b5 : Nat, hfR h a1 1 = some b5 ∧ okA h b1 5 ∧ w_X5_copyFrom zz b1 b5 h (fun  (h8 : AH) => okA h8 a0 4 ∧ ∃ b12 : Nat, hfR h8 a0 2 = some b12 ∧ okA h8 a1 4 ∧ ∃ b16 : Nat, hfR h8 a1 2 = some b16 ∧ okA h8 b12 5 ∧ w_X5_copyFrom zz b12 b16 h8 (fun  (h19 : AH) => okA h19 a1 4 ∧ ∃ b23 : Nat, hfR h19 a1 0 = some b23 ∧ okA h19 a0 4 ∧ ∃ b28 : Nat, hfR h19 a0 0 = some b28 ∧ okC h19 b23 (0 : Int) b28 (0 : Int) (8 : Int) ∧ ∀ h34 : AH, h34 = saI h19 b28 (cpI (haI h19 b23) (haI h19 b28) (0 : Int) (0 : Int) (8 : Int)) → Q h34))
set_option maxRecDepth 100000 in
set_option maxHeartbeats 4000000 in
theorem met_X4_copyFrom (G : GG) (l : Launch) : ∀ (As : List Value) (a0 : Nat) (a1 : Nat) (h : AH) (Q : AH → Prop), As.map ab = List.map some ([vR a0, vR a1] : List AV) → w_X4_copyFrom G.2.2 a0 a1 h Q → Met l yX4_copyFrom (.code yX4_copyFrom cX4_copyFrom 2 none :: xTb) ({ frames := 2, cells := 0, slots := 0, locals := 61 } : Room) (PcA G As h) (QG G (oV Q)) 0 0 (frA G) := by
  intro As a0 a1 h Q hA hw
  refine met_of hA (by decide) (Nat.le_of_ble_eq_true rfl) (fun p e s m args below meth c C hml hr hnm => ?_)
  unfold w_X4_copyFrom at hw
  refine aw_aload_n (pc := 0) C dX4_copyFrom_0 rfl rfl ?_
  obtain ⟨hp9, b1, hb9, hw⟩ := hw
  refine aw_getR (pc := 1) C (ci := 4) (k := 1) ci4 (by decide) tw68 dX4_copyFrom_1 rfl hp9 hb9 ?_
  refine aw_aload_n (pc := 4) C dX4_copyFrom_4 rfl rfl ?_
  obtain ⟨hp9, b5, hb9, hw⟩ := hw
  refine aw_getR (pc := 5) C (ci := 4) (k := 1) ci4 (by decide) tw68 dX4_copyFrom_5 rfl hp9 hb9 ?_
  obtain ⟨hp9, hw⟩ := hw
  refine aw_callV (pc := 8) (as := [vR b5]) C ci5 (fun As hA => met_X5_copyFrom G l As b1 b5 _ _ hA hw) tw694 tw695 tw696 tw3 tw697 ⟨rfl, rfl⟩ ⟨rfl, by decide, by decide, pd_X5_copyFrom⟩ ⟨Nat.le_of_ble_eq_true rfl, Nat.le_of_ble_eq_true rfl⟩ ⟨Nat.zero_le _, Nat.zero_le _⟩ (Nat.le_of_ble_eq_true rfl) dX4_copyFrom_8 rfl hp9 (fun v9 h8 hq9 => ?_)
  obtain ⟨rfl, hw⟩ := hq9
  refine aw_aload_n (pc := 11) C dX4_copyFrom_11 rfl rfl ?_
  obtain ⟨hp9, b12, hb9, hw⟩ := hw
  refine aw_getR (pc := 12) C (ci := 4) (k := 2) ci4 (by decide) tw69 dX4_copyFrom_12 rfl hp9 hb9 ?_
  refine aw_aload_n (pc := 15) C dX4_copyFrom_15 rfl rfl ?_
  obtain ⟨hp9, b16, hb9, hw⟩ := hw
  refine aw_getR (pc := 16) C (ci := 4) (k := 2) ci4 (by decide) tw69 dX4_copyFrom_16 rfl hp9 hb9 ?_
  obtain ⟨hp9, hw⟩ := hw
  refine aw_callV (pc := 19) (as := [vR b16]) C ci5 (fun As hA => met_X5_copyFrom G l As b12 b16 _ _ hA hw) tw694 tw695 tw696 tw3 tw697 ⟨rfl, rfl⟩ ⟨rfl, by decide, by decide, pd_X5_copyFrom⟩ ⟨Nat.le_of_ble_eq_true rfl, Nat.le_of_ble_eq_true rfl⟩ ⟨Nat.zero_le _, Nat.zero_le _⟩ (Nat.le_of_ble_eq_true rfl) dX4_copyFrom_19 rfl hp9 (fun v9 h19 hq9 => ?_)
  obtain ⟨rfl, hw⟩ := hq9
  refine aw_aload_n (pc := 22) C dX4_copyFrom_22 rfl rfl ?_
  obtain ⟨hp9, b23, hb9, hw⟩ := hw
  refine aw_getR (pc := 23) C (ci := 4) (k := 0) ci4 (by decide) tw63 dX4_copyFrom_23 rfl hp9 hb9 ?_
  refine aw_iconst (pc := 26) C dX4_copyFrom_26 (i := (0 : Int)) (by decide) ?_
  refine aw_aload_n (pc := 27) C dX4_copyFrom_27 rfl rfl ?_
  obtain ⟨hp9, b28, hb9, hw⟩ := hw
  refine aw_getR (pc := 28) C (ci := 4) (k := 0) ci4 (by decide) tw63 dX4_copyFrom_28 rfl hp9 hb9 ?_
  refine aw_iconst (pc := 31) C dX4_copyFrom_31 (i := (0 : Int)) (by decide) ?_
  refine aw_bipush (pc := 32) C dX4_copyFrom_32 (i := (8 : Int)) (by decide) ?_
  obtain ⟨⟨ka9, kb9, ha9, hb9, hz9⟩, hw⟩ := hw
  refine aw_copy (pc := 34) C tw60 tw62 tw61 tw5 ⟨Nat.le_of_ble_eq_true rfl, Nat.le_of_ble_eq_true rfl⟩ (Nat.le_of_ble_eq_true rfl) dX4_copyFrom_34 ha9 hb9 hz9 (aw_nmH (fun h34 e9 => ?_))
  have hw := hw h34 e9
  exact aw_vret (pc := 37) C hr dX4_copyFrom_37 ⟨Nat.le_of_ble_eq_true rfl, Nat.le_of_ble_eq_true rfl⟩ ⟨rfl, hw⟩
theorem dX4_exchangeTexts_0 : decode cX4_exchangeTexts 0 = .ok (.aload_n 0, 1) := by decide +kernel
theorem dX4_exchangeTexts_1 : decode cX4_exchangeTexts 1 = .ok (.getfield 18, 3) := by decide +kernel
theorem dX4_exchangeTexts_4 : decode cX4_exchangeTexts 4 = .ok (.astore_n 1, 1) := by decide +kernel
theorem dX4_exchangeTexts_5 : decode cX4_exchangeTexts 5 = .ok (.aload_n 0, 1) := by decide +kernel
theorem dX4_exchangeTexts_6 : decode cX4_exchangeTexts 6 = .ok (.aload_n 0, 1) := by decide +kernel
theorem dX4_exchangeTexts_7 : decode cX4_exchangeTexts 7 = .ok (.getfield 22, 3) := by decide +kernel
theorem dX4_exchangeTexts_10 : decode cX4_exchangeTexts 10 = .ok (.putfield 18, 3) := by decide +kernel
theorem dX4_exchangeTexts_13 : decode cX4_exchangeTexts 13 = .ok (.aload_n 0, 1) := by decide +kernel
theorem dX4_exchangeTexts_14 : decode cX4_exchangeTexts 14 = .ok (.aload_n 1, 1) := by decide +kernel
theorem dX4_exchangeTexts_15 : decode cX4_exchangeTexts 15 = .ok (.putfield 22, 3) := by decide +kernel
theorem dX4_exchangeTexts_18 : decode cX4_exchangeTexts 18 = .ok (.return_, 1) := by decide +kernel
theorem pd_X4_exchangeTexts : (parseMethodDescriptor yX4_exchangeTexts.desc).map (fun d => d.parameters.length) = some 0 := by decide +kernel
def w_X4_exchangeTexts (zz : Nat → Nat) (a0 : Nat) (h : AH) (Q : AH → Prop) : Prop := okA h a0 4 ∧ ∃ b1 : Nat, hfR h a0 1 = some b1 ∧ okA h a0 4 ∧ ∃ b7 : Nat, hfR h a0 2 = some b7 ∧ okP h a0 4 ∧ ∀ h10 : AH, h10 = sfR h a0 1 (some b7) → okP h10 a0 4 ∧ ∀ h15 : AH, h15 = sfR h10 a0 2 (some b1) → Q h15
set_option maxRecDepth 100000 in
set_option maxHeartbeats 4000000 in
theorem met_X4_exchangeTexts (G : GG) (l : Launch) : ∀ (As : List Value) (a0 : Nat) (h : AH) (Q : AH → Prop), As.map ab = List.map some ([vR a0] : List AV) → w_X4_exchangeTexts G.2.2 a0 h Q → Met l yX4_exchangeTexts (.code yX4_exchangeTexts cX4_exchangeTexts 2 none :: xTb) ({ frames := 0, cells := 0, slots := 0, locals := 0 } : Room) (PcA G As h) (QG G (oV Q)) 0 0 (frA G) := by
  intro As a0 h Q hA hw
  refine met_of hA (by decide) (Nat.le_of_ble_eq_true rfl) (fun p e s m args below meth c C hml hr hnm => ?_)
  unfold w_X4_exchangeTexts at hw
  refine aw_aload_n (pc := 0) C dX4_exchangeTexts_0 rfl rfl ?_
  obtain ⟨hp9, b1, hb9, hw⟩ := hw
  refine aw_getR (pc := 1) C (ci := 4) (k := 1) ci4 (by decide) tw68 dX4_exchangeTexts_1 rfl hp9 hb9 ?_
  refine aw_astore_n (pc := 4) C dX4_exchangeTexts_4 rfl (by rw [hml]; decide) ?_
  refine aw_aload_n (pc := 5) C dX4_exchangeTexts_5 rfl rfl ?_
  refine aw_aload_n (pc := 6) C dX4_exchangeTexts_6 rfl rfl ?_
  obtain ⟨hp9, b7, hb9, hw⟩ := hw
  refine aw_getR (pc := 7) C (ci := 4) (k := 2) ci4 (by decide) tw69 dX4_exchangeTexts_7 rfl hp9 hb9 ?_
  obtain ⟨hp9, hw⟩ := hw
  refine aw_putR (pc := 10) C (ci := 4) (k := 1) ci4 (by decide) tw68 (Or.inl rfl) dX4_exchangeTexts_10 rfl hp9 (aw_nmH (fun h10 e9 => ?_))
  have hw := hw h10 e9
  refine aw_aload_n (pc := 13) C dX4_exchangeTexts_13 rfl rfl ?_
  refine aw_aload_n (pc := 14) C dX4_exchangeTexts_14 rfl rfl ?_
  obtain ⟨hp9, hw⟩ := hw
  refine aw_putR (pc := 15) C (ci := 4) (k := 2) ci4 (by decide) tw69 (Or.inl rfl) dX4_exchangeTexts_15 rfl hp9 (aw_nmH (fun h15 e9 => ?_))
  have hw := hw h15 e9
  exact aw_vret (pc := 18) C hr dX4_exchangeTexts_18 ⟨Nat.le_of_ble_eq_true rfl, Nat.le_of_ble_eq_true rfl⟩ ⟨rfl, hw⟩
theorem dX1_frames_0 : decode cX1_frames 0 = .ok (.iconst 1, 1) := by decide +kernel
theorem dX1_frames_1 : decode cX1_frames 1 = .ok (.aload_n 0, 1) := by decide +kernel
theorem dX1_frames_2 : decode cX1_frames 2 = .ok (.getfield 27, 3) := by decide +kernel
theorem dX1_frames_5 : decode cX1_frames 5 = .ok (.iadd, 1) := by decide +kernel
theorem dX1_frames_6 : decode cX1_frames 6 = .ok (.aload_n 0, 1) := by decide +kernel
theorem dX1_frames_7 : decode cX1_frames 7 = .ok (.getfield 49, 3) := by decide +kernel
theorem dX1_frames_10 : decode cX1_frames 10 = .ok (.getfield 77, 3) := by decide +kernel
theorem dX1_frames_13 : decode cX1_frames 13 = .ok (.iadd, 1) := by decide +kernel
theorem dX1_frames_14 : decode cX1_frames 14 = .ok (.aload_n 0, 1) := by decide +kernel
theorem dX1_frames_15 : decode cX1_frames 15 = .ok (.getfield 40, 3) := by decide +kernel
theorem dX1_frames_18 : decode cX1_frames 18 = .ok (.getfield 62, 3) := by decide +kernel
theorem dX1_frames_21 : decode cX1_frames 21 = .ok (.iconst 5, 1) := by decide +kernel
theorem dX1_frames_22 : decode cX1_frames 22 = .ok (.iaload, 1) := by decide +kernel
theorem dX1_frames_23 : decode cX1_frames 23 = .ok (.iadd, 1) := by decide +kernel
theorem dX1_frames_24 : decode cX1_frames 24 = .ok (.aload_n 0, 1) := by decide +kernel
theorem dX1_frames_25 : decode cX1_frames 25 = .ok (.getfield 31, 3) := by decide +kernel
theorem dX1_frames_28 : decode cX1_frames 28 = .ok (.getfield 57, 3) := by decide +kernel
theorem dX1_frames_31 : decode cX1_frames 31 = .ok (.bipush 7, 2) := by decide +kernel
theorem dX1_frames_33 : decode cX1_frames 33 = .ok (.iaload, 1) := by decide +kernel
theorem dX1_frames_34 : decode cX1_frames 34 = .ok (.iadd, 1) := by decide +kernel
theorem dX1_frames_35 : decode cX1_frames 35 = .ok (.ireturn, 1) := by decide +kernel
theorem pd_X1_frames : (parseMethodDescriptor yX1_frames.desc).map (fun d => d.parameters.length) = some 0 := by decide +kernel
def w_X1_frames (zz : Nat → Nat) (a0 : Nat) (h : AH) (Q : Int → AH → Prop) : Prop := okA h a0 1 ∧ inR ((1 : Int) + (hfI h a0 8)) ∧ okA h a0 1 ∧ ∃ b7 : Nat, hfR h a0 1 = some b7 ∧ okA h b7 2 ∧ inR (((1 : Int) + (hfI h a0 8)) + (hfI h b7 3)) ∧ okA h a0 1 ∧ ∃ b15 : Nat, hfR h a0 0 = some b15 ∧ okA h b15 3 ∧ ∃ b18 : Nat, hfR h b15 4 = some b18 ∧ okI h b18 (5 : Int) ∧ inR ((((1 : Int) + (hfI h a0 8)) + (hfI h b7 3)) + (haI h b18 (5 : Int))) ∧ okA h a0 1 ∧ ∃ b25 : Nat, hfR h a0 2 = some b25 ∧ okA h b25 4 ∧ ∃ b28 : Nat, hfR h b25 0 = some b28 ∧ okI h b28 (7 : Int) ∧ inR (((((1 : Int) + (hfI h a0 8)) + (hfI h b7 3)) + (haI h b18 (5 : Int))) + (haI h b28 (7 : Int))) ∧ Q (((((1 : Int) + (hfI h a0 8)) + (hfI h b7 3)) + (haI h b18 (5 : Int))) + (haI h b28 (7 : Int))) h
set_option maxRecDepth 100000 in
set_option maxHeartbeats 4000000 in
theorem met_X1_frames (G : GG) (l : Launch) : ∀ (As : List Value) (a0 : Nat) (h : AH) (Q : Int → AH → Prop), As.map ab = List.map some ([vR a0] : List AV) → w_X1_frames G.2.2 a0 h Q → Met l yX1_frames (.code yX1_frames cX1_frames 1 (some .int) :: xTb) ({ frames := 0, cells := 0, slots := 0, locals := 0 } : Room) (PcA G As h) (QG G (oI Q)) 0 0 (frA G) := by
  intro As a0 h Q hA hw
  refine met_of hA (by decide) (Nat.le_of_ble_eq_true rfl) (fun p e s m args below meth c C hml hr hnm => ?_)
  unfold w_X1_frames at hw
  refine aw_iconst (pc := 0) C dX1_frames_0 (i := (1 : Int)) (by decide) ?_
  refine aw_aload_n (pc := 1) C dX1_frames_1 rfl rfl ?_
  obtain ⟨hp9, hw⟩ := hw
  refine aw_getI (pc := 2) C (ci := 1) (k := 8) ci1 (by decide) tw178 dX1_frames_2 rfl hp9 ?_
  obtain ⟨hp9, hw⟩ := hw
  refine aw_iadd (pc := 5) C dX1_frames_5 hp9 ?_
  refine aw_aload_n (pc := 6) C dX1_frames_6 rfl rfl ?_
  obtain ⟨hp9, b7, hb9, hw⟩ := hw
  refine aw_getR (pc := 7) C (ci := 1) (k := 1) ci1 (by decide) tw171 dX1_frames_7 rfl hp9 hb9 ?_
  obtain ⟨hp9, hw⟩ := hw
  refine aw_getI (pc := 10) C (ci := 2) (k := 3) ci2 (by decide) tw131 dX1_frames_10 rfl hp9 ?_
  obtain ⟨hp9, hw⟩ := hw
  refine aw_iadd (pc := 13) C dX1_frames_13 hp9 ?_
  refine aw_aload_n (pc := 14) C dX1_frames_14 rfl rfl ?_
  obtain ⟨hp9, b15, hb9, hw⟩ := hw
  refine aw_getR (pc := 15) C (ci := 1) (k := 0) ci1 (by decide) tw169 dX1_frames_15 rfl hp9 hb9 ?_
  obtain ⟨hp9, b18, hb9, hw⟩ := hw
  refine aw_getR (pc := 18) C (ci := 3) (k := 4) ci3 (by decide) tw100 dX1_frames_18 rfl hp9 hb9 ?_
  refine aw_iconst (pc := 21) C dX1_frames_21 (i := (5 : Int)) (by decide) ?_
  obtain ⟨⟨k9, hp9⟩, hw⟩ := hw
  refine aw_iald (pc := 22) C dX1_frames_22 hp9 ?_
  obtain ⟨hp9, hw⟩ := hw
  refine aw_iadd (pc := 23) C dX1_frames_23 hp9 ?_
  refine aw_aload_n (pc := 24) C dX1_frames_24 rfl rfl ?_
  obtain ⟨hp9, b25, hb9, hw⟩ := hw
  refine aw_getR (pc := 25) C (ci := 1) (k := 2) ci1 (by decide) tw172 dX1_frames_25 rfl hp9 hb9 ?_
  obtain ⟨hp9, b28, hb9, hw⟩ := hw
  refine aw_getR (pc := 28) C (ci := 4) (k := 0) ci4 (by decide) tw64 dX1_frames_28 rfl hp9 hb9 ?_
  refine aw_bipush (pc := 31) C dX1_frames_31 (i := (7 : Int)) (by decide) ?_
  obtain ⟨⟨k9, hp9⟩, hw⟩ := hw
  refine aw_iald (pc := 33) C dX1_frames_33 hp9 ?_
  obtain ⟨hp9, hw⟩ := hw
  refine aw_iadd (pc := 34) C dX1_frames_34 hp9 ?_
  exact aw_iret (pc := 35) C hr dX1_frames_35 ⟨Nat.le_of_ble_eq_true rfl, Nat.le_of_ble_eq_true rfl⟩ ⟨_, rfl, hw⟩
theorem dX6_isFrame_0 : decode cX6_isFrame 0 = .ok (.iload_n 1, 1) := by decide +kernel
theorem dX6_isFrame_1 : decode cX6_isFrame 1 = .ok (.ifCond .lt 18, 3) := by decide +kernel
theorem dX6_isFrame_4 : decode cX6_isFrame 4 = .ok (.iload_n 1, 1) := by decide +kernel
theorem dX6_isFrame_5 : decode cX6_isFrame 5 = .ok (.aload_n 0, 1) := by decide +kernel
theorem dX6_isFrame_6 : decode cX6_isFrame 6 = .ok (.getfield 21, 3) := by decide +kernel
theorem dX6_isFrame_9 : decode cX6_isFrame 9 = .ok (.invokevirtual 138, 3) := by decide +kernel
theorem dX6_isFrame_12 : decode cX6_isFrame 12 = .ok (.if_icmp .ge 7, 3) := by decide +kernel
theorem dX6_isFrame_15 : decode cX6_isFrame 15 = .ok (.iconst 1, 1) := by decide +kernel
theorem dX6_isFrame_16 : decode cX6_isFrame 16 = .ok (.goto 4, 3) := by decide +kernel
theorem dX6_isFrame_19 : decode cX6_isFrame 19 = .ok (.iconst 0, 1) := by decide +kernel
theorem dX6_isFrame_20 : decode cX6_isFrame 20 = .ok (.ireturn, 1) := by decide +kernel
theorem pd_X6_isFrame : (parseMethodDescriptor yX6_isFrame.desc).map (fun d => d.parameters.length) = some 1 := by decide +kernel
def w_X6_isFrame (zz : Nat → Nat) (a0 : Nat) (a1 : Int) (h : AH) (Q : Int → AH → Prop) : Prop := jn (fun (t0_20 : Int) (h_20 : AH) => (t0_20 = 0 ∨ t0_20 = 1) ∧ Q t0_20 h_20) (fun k_20 : Int → AH → Prop => jn (fun  (h_19 : AH) => k_20 (0 : Int) h_19) (fun k_19 : AH → Prop => ((a1 < 0) → k_19  h) ∧ ((¬ (a1 < 0)) → okA h a0 6 ∧ ∃ b6 : Nat, hfR h a0 1 = some b6 ∧ okA h b6 1 ∧ w_X1_frames zz b6 h (fun (r9 : Int) (h9 : AH) => ((r9 ≤ a1) → k_19  h9) ∧ ((¬ (r9 ≤ a1)) → k_20 (1 : Int) h9)))))
set_option maxRecDepth 100000 in
set_option maxHeartbeats 4000000 in
theorem met_X6_isFrame (G : GG) (l : Launch) : ∀ (As : List Value) (a0 : Nat) (a1 : Int) (h : AH) (Q : Int → AH → Prop), As.map ab = List.map some ([vR a0, vI a1] : List AV) → w_X6_isFrame G.2.2 a0 a1 h Q → Met l yX6_isFrame (.code yX6_isFrame cX6_isFrame 2 (some .boolean) :: xTb) ({ frames := 1, cells := 0, slots := 0, locals := 20 } : Room) (PcA G As h) (QG G (oI Q)) 0 0 (frA G) := by
  intro As a0 a1 h Q hA hw
  refine met_of hA (by decide) (Nat.le_of_ble_eq_true rfl) (fun p e s m args below meth c C hml hr hnm => ?_)
  unfold w_X6_isFrame at hw
  refine aw_iload_n (pc := 0) C dX6_isFrame_0 rfl rfl ?_
  obtain ⟨k_20, hk_20, hw⟩ := jn_out hw
  have J_20 : ∀ (t0_20 : Int) (h_20 : AH), k_20 t0_20 h_20 → AW G p l e ({ frames := 1, cells := 0, slots := 0, locals := 20 } : Room) s m args below meth c 0 0 (MQ below (QG G (oI Q)) args s 0 0 (frA G)) 20 (eOf []) [vI t0_20] h_20 := by
    intro t0_20 h_20 hw
    rw [hk_20] at hw
    obtain ⟨hp9, hw⟩ := hw
    exact aw_zret (pc := 20) C hr dX6_isFrame_20 ⟨Nat.le_of_ble_eq_true rfl, Nat.le_of_ble_eq_true rfl⟩ hp9 ⟨_, rfl, hw⟩
  obtain ⟨k_19, hk_19, hw⟩ := jn_out hw
  have J_19 : ∀  (h_19 : AH), k_19  h_19 → AW G p l e ({ frames := 1, cells := 0, slots := 0, locals := 20 } : Room) s m args below meth c 0 0 (MQ below (QG G (oI Q)) args s 0 0 (frA G)) 19 (eOf []) [] h_19 := by
    intro  h_19 hw
    rw [hk_19] at hw
    refine aw_iconst (pc := 19) C dX6_isFrame_19 (i := (0 : Int)) (by decide) ?_
    refine aw_sub [] trivial ?_
    exact J_20 _ _ hw
  refine aw_if_lt (pc := 1) (tgt := 19) C dX6_isFrame_1 (by decide) (fun hc9 => ?_) (fun hc9 => ?_)
  · have hw := hw.1 hc9
    refine aw_sub [] trivial ?_
    exact J_19  _ hw
  · have hw := hw.2 hc9
    refine aw_iload_n (pc := 4) C dX6_isFrame_4 rfl rfl ?_
    refine aw_aload_n (pc := 5) C dX6_isFrame_5 rfl rfl ?_
    obtain ⟨hp9, b6, hb9, hw⟩ := hw
    refine aw_getR (pc := 6) C (ci := 6) (k := 1) ci6 (by decide) tw219 dX6_isFrame_6 rfl hp9 hb9 ?_
    obtain ⟨hp9, hw⟩ := hw
    refine aw_callV (pc := 9) (as := []) C ci1 (fun As hA => met_X1_frames G l As b6 _ _ hA hw) tw485 tw420 tw421 tw6 tw422 ⟨rfl, rfl⟩ ⟨rfl, by decide, by decide, pd_X1_frames⟩ ⟨Nat.le_of_ble_eq_true rfl, Nat.le_of_ble_eq_true rfl⟩ ⟨Nat.zero_le _, Nat.zero_le _⟩ (Nat.le_of_ble_eq_true rfl) dX6_isFrame_9 rfl hp9 (fun v9 h9 hq9 => ?_)
    obtain ⟨r9, rfl, hw⟩ := hq9
    refine aw_icmp_ge (pc := 12) (tgt := 19) C dX6_isFrame_12 (by decide) (fun hc9 => ?_) (fun hc9 => ?_)
    · have hw := hw.1 hc9
      refine aw_sub [] trivial ?_
      exact J_19  _ hw
    · have hw := hw.2 hc9
      refine aw_iconst (pc := 15) C dX6_isFrame_15 (i := (1 : Int)) (by decide) ?_
      refine aw_goto (pc := 16) (tgt := 20) C dX6_isFrame_16 (by decide) ?_
      refine aw_sub [] trivial ?_
      exact J_20 _ _ hw
theorem dX6_isPiece_0 : decode cX6_isPiece 0 = .ok (.iload_n 1, 1) := by decide +kernel
theorem dX6_isPiece_1 : decode cX6_isPiece 1 = .ok (.ifCond .lt 22, 3) := by decide +kernel
theorem dX6_isPiece_4 : decode cX6_isPiece 4 = .ok (.iload_n 1, 1) := by decide +kernel
theorem dX6_isPiece_5 : decode cX6_isPiece 5 = .ok (.aload_n 0, 1) := by decide +kernel
theorem dX6_isPiece_6 : decode cX6_isPiece 6 = .ok (.getfield 12, 3) := by decide +kernel
theorem dX6_isPiece_9 : decode cX6_isPiece 9 = .ok (.iconst 0, 1) := by decide +kernel
theorem dX6_isPiece_10 : decode cX6_isPiece 10 = .ok (.invokevirtual 53, 3) := by decide +kernel
theorem dX6_isPiece_13 : decode cX6_isPiece 13 = .ok (.getfield 57, 3) := by decide +kernel
theorem dX6_isPiece_16 : decode cX6_isPiece 16 = .ok (.if_icmp .ge 7, 3) := by decide +kernel
theorem dX6_isPiece_19 : decode cX6_isPiece 19 = .ok (.iconst 1, 1) := by decide +kernel
theorem dX6_isPiece_20 : decode cX6_isPiece 20 = .ok (.goto 4, 3) := by decide +kernel
theorem dX6_isPiece_23 : decode cX6_isPiece 23 = .ok (.iconst 0, 1) := by decide +kernel
theorem dX6_isPiece_24 : decode cX6_isPiece 24 = .ok (.ireturn, 1) := by decide +kernel
theorem pd_X6_isPiece : (parseMethodDescriptor yX6_isPiece.desc).map (fun d => d.parameters.length) = some 1 := by decide +kernel
def w_X6_isPiece (zz : Nat → Nat) (a0 : Nat) (a1 : Int) (h : AH) (Q : Int → AH → Prop) : Prop := jn (fun (t0_24 : Int) (h_24 : AH) => (t0_24 = 0 ∨ t0_24 = 1) ∧ Q t0_24 h_24) (fun k_24 : Int → AH → Prop => jn (fun  (h_23 : AH) => k_24 (0 : Int) h_23) (fun k_23 : AH → Prop => ((a1 < 0) → k_23  h) ∧ ((¬ (a1 < 0)) → okA h a0 6 ∧ ∃ b6 : Nat, hfR h a0 0 = some b6 ∧ okA h b6 4 ∧ w_X4_text zz b6 (0 : Int) h (fun (r10 : Nat) (h10 : AH) => okA h10 r10 5 ∧ (((hfI h10 r10 2) ≤ a1) → k_23  h10) ∧ ((¬ ((hfI h10 r10 2) ≤ a1)) → k_24 (1 : Int) h10)))))
set_option maxRecDepth 100000 in
set_option maxHeartbeats 4000000 in
theorem met_X6_isPiece (G : GG) (l : Launch) : ∀ (As : List Value) (a0 : Nat) (a1 : Int) (h : AH) (Q : Int → AH → Prop), As.map ab = List.map some ([vR a0, vI a1] : List AV) → w_X6_isPiece G.2.2 a0 a1 h Q → Met l yX6_isPiece (.code yX6_isPiece cX6_isPiece 2 (some .boolean) :: xTb) ({ frames := 1, cells := 0, slots := 0, locals := 21 } : Room) (PcA G As h) (QG G (oI Q)) 0 0 (frA G) := by
  intro As a0 a1 h Q hA hw
  refine met_of hA (by decide) (Nat.le_of_ble_eq_true rfl) (fun p e s m args below meth c C hml hr hnm => ?_)
  unfold w_X6_isPiece at hw
  refine aw_iload_n (pc := 0) C dX6_isPiece_0 rfl rfl ?_
  obtain ⟨k_24, hk_24, hw⟩ := jn_out hw
  have J_24 : ∀ (t0_24 : Int) (h_24 : AH), k_24 t0_24 h_24 → AW G p l e ({ frames := 1, cells := 0, slots := 0, locals := 21 } : Room) s m args below meth c 0 0 (MQ below (QG G (oI Q)) args s 0 0 (frA G)) 24 (eOf []) [vI t0_24] h_24 := by
    intro t0_24 h_24 hw
    rw [hk_24] at hw
    obtain ⟨hp9, hw⟩ := hw
    exact aw_zret (pc := 24) C hr dX6_isPiece_24 ⟨Nat.le_of_ble_eq_true rfl, Nat.le_of_ble_eq_true rfl⟩ hp9 ⟨_, rfl, hw⟩
  obtain ⟨k_23, hk_23, hw⟩ := jn_out hw
  have J_23 : ∀  (h_23 : AH), k_23  h_23 → AW G p l e ({ frames := 1, cells := 0, slots := 0, locals := 21 } : Room) s m args below meth c 0 0 (MQ below (QG G (oI Q)) args s 0 0 (frA G)) 23 (eOf []) [] h_23 := by
    intro  h_23 hw
    rw [hk_23] at hw
    refine aw_iconst (pc := 23) C dX6_isPiece_23 (i := (0 : Int)) (by decide) ?_
    refine aw_sub [] trivial ?_
    exact J_24 _ _ hw
  refine aw_if_lt (pc := 1) (tgt := 23) C dX6_isPiece_1 (by decide) (fun hc9 => ?_) (fun hc9 => ?_)
  · have hw := hw.1 hc9
    refine aw_sub [] trivial ?_
    exact J_23  _ hw
  · have hw := hw.2 hc9
    refine aw_iload_n (pc := 4) C dX6_isPiece_4 rfl rfl ?_
    refine aw_aload_n (pc := 5) C dX6_isPiece_5 rfl rfl ?_
    obtain ⟨hp9, b6, hb9, hw⟩ := hw
    refine aw_getR (pc := 6) C (ci := 6) (k := 0) ci6 (by decide) tw218 dX6_isPiece_6 rfl hp9 hb9 ?_
    refine aw_iconst (pc := 9) C dX6_isPiece_9 (i := (0 : Int)) (by decide) ?_
    obtain ⟨hp9, hw⟩ := hw
    refine aw_callV (pc := 10) (as := [vI (0 : Int)]) C ci4 (fun As hA => met_X4_text G l As b6 (0 : Int) _ _ hA hw) tw552 tw333 tw334 tw2 tw335 ⟨rfl, rfl⟩ ⟨rfl, by decide, by decide, pd_X4_text⟩ ⟨Nat.le_of_ble_eq_true rfl, Nat.le_of_ble_eq_true rfl⟩ ⟨Nat.zero_le _, Nat.zero_le _⟩ (Nat.le_of_ble_eq_true rfl) dX6_isPiece_10 rfl hp9 (fun v9 h10 hq9 => ?_)
    obtain ⟨r10, rfl, hw⟩ := hq9
    obtain ⟨hp9, hw⟩ := hw
    refine aw_getI (pc := 13) C (ci := 5) (k := 2) ci5 (by decide) tw49 dX6_isPiece_13 rfl hp9 ?_
    refine aw_icmp_ge (pc := 16) (tgt := 23) C dX6_isPiece_16 (by decide) (fun hc9 => ?_) (fun hc9 => ?_)
    · have hw := hw.1 hc9
      refine aw_sub [] trivial ?_
      exact J_23  _ hw
    · have hw := hw.2 hc9
      refine aw_iconst (pc := 19) C dX6_isPiece_19 (i := (1 : Int)) (by decide) ?_
      refine aw_goto (pc := 20) (tgt := 24) C dX6_isPiece_20 (by decide) ?_
      refine aw_sub [] trivial ?_
      exact J_24 _ _ hw
theorem dX6_isText_0 : decode cX6_isText 0 = .ok (.iload_n 0, 1) := by decide +kernel
theorem dX6_isText_1 : decode cX6_isText 1 = .ok (.ifCond .eq 8, 3) := by decide +kernel
theorem dX6_isText_4 : decode cX6_isText 4 = .ok (.iload_n 0, 1) := by decide +kernel
theorem dX6_isText_5 : decode cX6_isText 5 = .ok (.iconst 1, 1) := by decide +kernel
theorem dX6_isText_6 : decode cX6_isText 6 = .ok (.if_icmp .ne 7, 3) := by decide +kernel
theorem dX6_isText_9 : decode cX6_isText 9 = .ok (.iconst 1, 1) := by decide +kernel
theorem dX6_isText_10 : decode cX6_isText 10 = .ok (.goto 4, 3) := by decide +kernel
theorem dX6_isText_13 : decode cX6_isText 13 = .ok (.iconst 0, 1) := by decide +kernel
theorem dX6_isText_14 : decode cX6_isText 14 = .ok (.ireturn, 1) := by decide +kernel
theorem pd_X6_isText : (parseMethodDescriptor yX6_isText.desc).map (fun d => d.parameters.length) = some 1 := by decide +kernel
def w_X6_isText (zz : Nat → Nat) (a0 : Int) (h : AH) (Q : Int → AH → Prop) : Prop := jn (fun (t0_14 : Int) (h_14 : AH) => (t0_14 = 0 ∨ t0_14 = 1) ∧ Q t0_14 h_14) (fun k_14 : Int → AH → Prop => jn (fun  (h_9 : AH) => k_14 (1 : Int) h_9) (fun k_9 : AH → Prop => ((a0 = 0) → k_9  h) ∧ ((¬ (a0 = 0)) → ((¬ a0 = (1 : Int)) → k_14 (0 : Int) h) ∧ ((a0 = (1 : Int)) → k_9  h))))
set_option maxRecDepth 100000 in
set_option maxHeartbeats 4000000 in
theorem met_X6_isText (G : GG) (l : Launch) : ∀ (As : List Value) (a0 : Int) (h : AH) (Q : Int → AH → Prop), As.map ab = List.map some ([vI a0] : List AV) → w_X6_isText G.2.2 a0 h Q → Met l yX6_isText (.code yX6_isText cX6_isText 1 (some .boolean) :: xTb) ({ frames := 0, cells := 0, slots := 0, locals := 0 } : Room) (PcA G As h) (QG G (oI Q)) 0 0 (frA G) := by
  intro As a0 h Q hA hw
  refine met_of hA (by decide) (Nat.le_of_ble_eq_true rfl) (fun p e s m args below meth c C hml hr hnm => ?_)
  unfold w_X6_isText at hw
  refine aw_iload_n (pc := 0) C dX6_isText_0 rfl rfl ?_
  obtain ⟨k_14, hk_14, hw⟩ := jn_out hw
  have J_14 : ∀ (t0_14 : Int) (h_14 : AH), k_14 t0_14 h_14 → AW G p l e ({ frames := 0, cells := 0, slots := 0, locals := 0 } : Room) s m args below meth c 0 0 (MQ below (QG G (oI Q)) args s 0 0 (frA G)) 14 (eOf []) [vI t0_14] h_14 := by
    intro t0_14 h_14 hw
    rw [hk_14] at hw
    obtain ⟨hp9, hw⟩ := hw
    exact aw_zret (pc := 14) C hr dX6_isText_14 ⟨Nat.le_of_ble_eq_true rfl, Nat.le_of_ble_eq_true rfl⟩ hp9 ⟨_, rfl, hw⟩
  obtain ⟨k_9, hk_9, hw⟩ := jn_out hw
  have J_9 : ∀  (h_9 : AH), k_9  h_9 → AW G p l e ({ frames := 0, cells := 0, slots := 0, locals := 0 } : Room) s m args below meth c 0 0 (MQ below (QG G (oI Q)) args s 0 0 (frA G)) 9 (eOf []) [] h_9 := by
    intro  h_9 hw
    rw [hk_9] at hw
    refine aw_iconst (pc := 9) C dX6_isText_9 (i := (1 : Int)) (by decide) ?_
    refine aw_goto (pc := 10) (tgt := 14) C dX6_isText_10 (by decide) ?_
    refine aw_sub [] trivial ?_
    exact J_14 _ _ hw
  refine aw_if_eq (pc := 1) (tgt := 9) C dX6_isText_1 (by decide) (fun hc9 => ?_) (fun hc9 => ?_)
  · have hw := hw.1 hc9
    refine aw_sub [] trivial ?_
    exact J_9  _ hw
  · have hw := hw.2 hc9
    refine aw_iload_n (pc := 4) C dX6_isText_4 rfl rfl ?_
    refine aw_iconst (pc := 5) C dX6_isText_5 (i := (1 : Int)) (by decide) ?_
    refine aw_icmp_ne (pc := 6) (tgt := 13) C dX6_isText_6 (by decide) (fun hc9 => ?_) (fun hc9 => ?_)
    · have hw := hw.1 hc9
      refine aw_iconst (pc := 13) C dX6_isText_13 (i := (0 : Int)) (by decide) ?_
      refine aw_sub [] trivial ?_
      exact J_14 _ _ hw
    · have hw := hw.2 hc9
      refine aw_sub [] trivial ?_
      exact J_9  _ hw
theorem dX6_isCell_0 : decode cX6_isCell 0 = .ok (.iload_n 0, 1) := by decide +kernel
theorem dX6_isCell_1 : decode cX6_isCell 1 = .ok (.ifCond .lt 22, 3) := by decide +kernel
theorem dX6_isCell_4 : decode cX6_isCell 4 = .ok (.iload_n 0, 1) := by decide +kernel
theorem dX6_isCell_5 : decode cX6_isCell 5 = .ok (.iconst 5, 1) := by decide +kernel
theorem dX6_isCell_6 : decode cX6_isCell 6 = .ok (.if_icmp .ge 17, 3) := by decide +kernel
theorem dX6_isCell_9 : decode cX6_isCell 9 = .ok (.iload_n 1, 1) := by decide +kernel
theorem dX6_isCell_10 : decode cX6_isCell 10 = .ok (.ifCond .lt 13, 3) := by decide +kernel
theorem dX6_isCell_13 : decode cX6_isCell 13 = .ok (.iload_n 1, 1) := by decide +kernel
theorem dX6_isCell_14 : decode cX6_isCell 14 = .ok (.bipush 16, 2) := by decide +kernel
theorem dX6_isCell_16 : decode cX6_isCell 16 = .ok (.if_icmp .ge 7, 3) := by decide +kernel
theorem dX6_isCell_19 : decode cX6_isCell 19 = .ok (.iconst 1, 1) := by decide +kernel
theorem dX6_isCell_20 : decode cX6_isCell 20 = .ok (.goto 4, 3) := by decide +kernel
theorem dX6_isCell_23 : decode cX6_isCell 23 = .ok (.iconst 0, 1) := by decide +kernel
theorem dX6_isCell_24 : decode cX6_isCell 24 = .ok (.ireturn, 1) := by decide +kernel
theorem pd_X6_isCell : (parseMethodDescriptor yX6_isCell.desc).map (fun d => d.parameters.length) = some 2 := by decide +kernel
def w_X6_isCell (zz : Nat → Nat) (a0 : Int) (a1 : Int) (h : AH) (Q : Int → AH → Prop) : Prop := jn (fun (t0_24 : Int) (h_24 : AH) => (t0_24 = 0 ∨ t0_24 = 1) ∧ Q t0_24 h_24) (fun k_24 : Int → AH → Prop => jn (fun  (h_23 : AH) => k_24 (0 : Int) h_23) (fun k_23 : AH → Prop => ((a0 < 0) → k_23  h) ∧ ((¬ (a0 < 0)) → (((5 : Int) ≤ a0) → k_23  h) ∧ ((¬ ((5 : Int) ≤ a0)) → ((a1 < 0) → k_23  h) ∧ ((¬ (a1 < 0)) → (((16 : Int) ≤ a1) → k_23  h) ∧ ((¬ ((16 : Int) ≤ a1)) → k_24 (1 : Int) h))))))
set_option maxRecDepth 100000 in
set_option maxHeartbeats 4000000 in
theorem met_X6_isCell (G : GG) (l : Launch) : ∀ (As : List Value) (a0 : Int) (a1 : Int) (h : AH) (Q : Int → AH → Prop), As.map ab = List.map some ([vI a0, vI a1] : List AV) → w_X6_isCell G.2.2 a0 a1 h Q → Met l yX6_isCell (.code yX6_isCell cX6_isCell 2 (some .boolean) :: xTb) ({ frames := 0, cells := 0, slots := 0, locals := 0 } : Room) (PcA G As h) (QG G (oI Q)) 0 0 (frA G) := by
  intro As a0 a1 h Q hA hw
  refine met_of hA (by decide) (Nat.le_of_ble_eq_true rfl) (fun p e s m args below meth c C hml hr hnm => ?_)
  unfold w_X6_isCell at hw
  refine aw_iload_n (pc := 0) C dX6_isCell_0 rfl rfl ?_
  obtain ⟨k_24, hk_24, hw⟩ := jn_out hw
  have J_24 : ∀ (t0_24 : Int) (h_24 : AH), k_24 t0_24 h_24 → AW G p l e ({ frames := 0, cells := 0, slots := 0, locals := 0 } : Room) s m args below meth c 0 0 (MQ below (QG G (oI Q)) args s 0 0 (frA G)) 24 (eOf []) [vI t0_24] h_24 := by
    intro t0_24 h_24 hw
    rw [hk_24] at hw
    obtain ⟨hp9, hw⟩ := hw
    exact aw_zret (pc := 24) C hr dX6_isCell_24 ⟨Nat.le_of_ble_eq_true rfl, Nat.le_of_ble_eq_true rfl⟩ hp9 ⟨_, rfl, hw⟩
  obtain ⟨k_23, hk_23, hw⟩ := jn_out hw
  have J_23 : ∀  (h_23 : AH), k_23  h_23 → AW G p l e ({ frames := 0, cells := 0, slots := 0, locals := 0 } : Room) s m args below meth c 0 0 (MQ below (QG G (oI Q)) args s 0 0 (frA G)) 23 (eOf []) [] h_23 := by
    intro  h_23 hw
    rw [hk_23] at hw
    refine aw_iconst (pc := 23) C dX6_isCell_23 (i := (0 : Int)) (by decide) ?_
    refine aw_sub [] trivial ?_
    exact J_24 _ _ hw
  refine aw_if_lt (pc := 1) (tgt := 23) C dX6_isCell_1 (by decide) (fun hc9 => ?_) (fun hc9 => ?_)
  · have hw := hw.1 hc9
    refine aw_sub [] trivial ?_
    exact J_23  _ hw
  · have hw := hw.2 hc9
    refine aw_iload_n (pc := 4) C dX6_isCell_4 rfl rfl ?_
    refine aw_iconst (pc := 5) C dX6_isCell_5 (i := (5 : Int)) (by decide) ?_
    refine aw_icmp_ge (pc := 6) (tgt := 23) C dX6_isCell_6 (by decide) (fun hc9 => ?_) (fun hc9 => ?_)
    · have hw := hw.1 hc9
      refine aw_sub [] trivial ?_
      exact J_23  _ hw
    · have hw := hw.2 hc9
      refine aw_iload_n (pc := 9) C dX6_isCell_9 rfl rfl ?_
      refine aw_if_lt (pc := 10) (tgt := 23) C dX6_isCell_10 (by decide) (fun hc9 => ?_) (fun hc9 => ?_)
      · have hw := hw.1 hc9
        refine aw_sub [] trivial ?_
        exact J_23  _ hw
      · have hw := hw.2 hc9
        refine aw_iload_n (pc := 13) C dX6_isCell_13 rfl rfl ?_
        refine aw_bipush (pc := 14) C dX6_isCell_14 (i := (16 : Int)) (by decide) ?_
        refine aw_icmp_ge (pc := 16) (tgt := 23) C dX6_isCell_16 (by decide) (fun hc9 => ?_) (fun hc9 => ?_)
        · have hw := hw.1 hc9
          refine aw_sub [] trivial ?_
          exact J_23  _ hw
        · have hw := hw.2 hc9
          refine aw_iconst (pc := 19) C dX6_isCell_19 (i := (1 : Int)) (by decide) ?_
          refine aw_goto (pc := 20) (tgt := 24) C dX6_isCell_20 (by decide) ?_
          refine aw_sub [] trivial ?_
          exact J_24 _ _ hw
theorem dX6_isSetting_0 : decode cX6_isSetting 0 = .ok (.iload_n 0, 1) := by decide +kernel
theorem dX6_isSetting_1 : decode cX6_isSetting 1 = .ok (.ifCond .lt 13, 3) := by decide +kernel
theorem dX6_isSetting_4 : decode cX6_isSetting 4 = .ok (.iload_n 0, 1) := by decide +kernel
theorem dX6_isSetting_5 : decode cX6_isSetting 5 = .ok (.bipush 8, 2) := by decide +kernel
theorem dX6_isSetting_7 : decode cX6_isSetting 7 = .ok (.if_icmp .ge 7, 3) := by decide +kernel
theorem dX6_isSetting_10 : decode cX6_isSetting 10 = .ok (.iconst 1, 1) := by decide +kernel
theorem dX6_isSetting_11 : decode cX6_isSetting 11 = .ok (.goto 4, 3) := by decide +kernel
theorem dX6_isSetting_14 : decode cX6_isSetting 14 = .ok (.iconst 0, 1) := by decide +kernel
theorem dX6_isSetting_15 : decode cX6_isSetting 15 = .ok (.ireturn, 1) := by decide +kernel
theorem pd_X6_isSetting : (parseMethodDescriptor yX6_isSetting.desc).map (fun d => d.parameters.length) = some 1 := by decide +kernel
def w_X6_isSetting (zz : Nat → Nat) (a0 : Int) (h : AH) (Q : Int → AH → Prop) : Prop := jn (fun (t0_15 : Int) (h_15 : AH) => (t0_15 = 0 ∨ t0_15 = 1) ∧ Q t0_15 h_15) (fun k_15 : Int → AH → Prop => jn (fun  (h_14 : AH) => k_15 (0 : Int) h_14) (fun k_14 : AH → Prop => ((a0 < 0) → k_14  h) ∧ ((¬ (a0 < 0)) → (((8 : Int) ≤ a0) → k_14  h) ∧ ((¬ ((8 : Int) ≤ a0)) → k_15 (1 : Int) h))))
set_option maxRecDepth 100000 in
set_option maxHeartbeats 4000000 in
theorem met_X6_isSetting (G : GG) (l : Launch) : ∀ (As : List Value) (a0 : Int) (h : AH) (Q : Int → AH → Prop), As.map ab = List.map some ([vI a0] : List AV) → w_X6_isSetting G.2.2 a0 h Q → Met l yX6_isSetting (.code yX6_isSetting cX6_isSetting 1 (some .boolean) :: xTb) ({ frames := 0, cells := 0, slots := 0, locals := 0 } : Room) (PcA G As h) (QG G (oI Q)) 0 0 (frA G) := by
  intro As a0 h Q hA hw
  refine met_of hA (by decide) (Nat.le_of_ble_eq_true rfl) (fun p e s m args below meth c C hml hr hnm => ?_)
  unfold w_X6_isSetting at hw
  refine aw_iload_n (pc := 0) C dX6_isSetting_0 rfl rfl ?_
  obtain ⟨k_15, hk_15, hw⟩ := jn_out hw
  have J_15 : ∀ (t0_15 : Int) (h_15 : AH), k_15 t0_15 h_15 → AW G p l e ({ frames := 0, cells := 0, slots := 0, locals := 0 } : Room) s m args below meth c 0 0 (MQ below (QG G (oI Q)) args s 0 0 (frA G)) 15 (eOf []) [vI t0_15] h_15 := by
    intro t0_15 h_15 hw
    rw [hk_15] at hw
    obtain ⟨hp9, hw⟩ := hw
    exact aw_zret (pc := 15) C hr dX6_isSetting_15 ⟨Nat.le_of_ble_eq_true rfl, Nat.le_of_ble_eq_true rfl⟩ hp9 ⟨_, rfl, hw⟩
  obtain ⟨k_14, hk_14, hw⟩ := jn_out hw
  have J_14 : ∀  (h_14 : AH), k_14  h_14 → AW G p l e ({ frames := 0, cells := 0, slots := 0, locals := 0 } : Room) s m args below meth c 0 0 (MQ below (QG G (oI Q)) args s 0 0 (frA G)) 14 (eOf []) [] h_14 := by
    intro  h_14 hw
    rw [hk_14] at hw
    refine aw_iconst (pc := 14) C dX6_isSetting_14 (i := (0 : Int)) (by decide) ?_
    refine aw_sub [] trivial ?_
    exact J_15 _ _ hw
  refine aw_if_lt (pc := 1) (tgt := 14) C dX6_isSetting_1 (by decide) (fun hc9 => ?_) (fun hc9 => ?_)
  · have hw := hw.1 hc9
    refine aw_sub [] trivial ?_
    exact J_14  _ hw
  · have hw := hw.2 hc9
    refine aw_iload_n (pc := 4) C dX6_isSetting_4 rfl rfl ?_
    refine aw_bipush (pc := 5) C dX6_isSetting_5 (i := (8 : Int)) (by decide) ?_
    refine aw_icmp_ge (pc := 7) (tgt := 14) C dX6_isSetting_7 (by decide) (fun hc9 => ?_) (fun hc9 => ?_)
    · have hw := hw.1 hc9
      refine aw_sub [] trivial ?_
      exact J_14  _ hw
    · have hw := hw.2 hc9
      refine aw_iconst (pc := 10) C dX6_isSetting_10 (i := (1 : Int)) (by decide) ?_
      refine aw_goto (pc := 11) (tgt := 15) C dX6_isSetting_11 (by decide) ?_
      refine aw_sub [] trivial ?_
      exact J_15 _ _ hw
theorem dX6_isValue_0 : decode cX6_isValue 0 = .ok (.iload_n 1, 1) := by decide +kernel
theorem dX6_isValue_1 : decode cX6_isValue 1 = .ok (.getstatic 252, 3) := by decide +kernel
theorem dX6_isValue_4 : decode cX6_isValue 4 = .ok (.iload_n 0, 1) := by decide +kernel
theorem dX6_isValue_5 : decode cX6_isValue 5 = .ok (.iaload, 1) := by decide +kernel
theorem dX6_isValue_6 : decode cX6_isValue 6 = .ok (.if_icmp .lt 16, 3) := by decide +kernel
theorem dX6_isValue_9 : decode cX6_isValue 9 = .ok (.iload_n 1, 1) := by decide +kernel
theorem dX6_isValue_10 : decode cX6_isValue 10 = .ok (.getstatic 255, 3) := by decide +kernel
theorem dX6_isValue_13 : decode cX6_isValue 13 = .ok (.iload_n 0, 1) := by decide +kernel
theorem dX6_isValue_14 : decode cX6_isValue 14 = .ok (.iaload, 1) := by decide +kernel
theorem dX6_isValue_15 : decode cX6_isValue 15 = .ok (.if_icmp .gt 7, 3) := by decide +kernel
theorem dX6_isValue_18 : decode cX6_isValue 18 = .ok (.iconst 1, 1) := by decide +kernel
theorem dX6_isValue_19 : decode cX6_isValue 19 = .ok (.goto 4, 3) := by decide +kernel
theorem dX6_isValue_22 : decode cX6_isValue 22 = .ok (.iconst 0, 1) := by decide +kernel
theorem dX6_isValue_23 : decode cX6_isValue 23 = .ok (.ireturn, 1) := by decide +kernel
theorem pd_X6_isValue : (parseMethodDescriptor yX6_isValue.desc).map (fun d => d.parameters.length) = some 2 := by decide +kernel
def w_X6_isValue (zz : Nat → Nat) (a0 : Int) (a1 : Int) (h : AH) (Q : Int → AH → Prop) : Prop := okI h (zz 0) a0 ∧ jn (fun (t0_23 : Int) (h_23 : AH) => (t0_23 = 0 ∨ t0_23 = 1) ∧ Q t0_23 h_23) (fun k_23 : Int → AH → Prop => jn (fun  (h_22 : AH) => k_23 (0 : Int) h_22) (fun k_22 : AH → Prop => ((a1 < (haI h (zz 0) a0)) → k_22  h) ∧ ((¬ (a1 < (haI h (zz 0) a0))) → okI h (zz 1) a0 ∧ (((haI h (zz 1) a0) < a1) → k_22  h) ∧ ((¬ ((haI h (zz 1) a0) < a1)) → k_23 (1 : Int) h))))
set_option maxRecDepth 100000 in
set_option maxHeartbeats 4000000 in
theorem met_X6_isValue (G : GG) (l : Launch) : ∀ (As : List Value) (a0 : Int) (a1 : Int) (h : AH) (Q : Int → AH → Prop), As.map ab = List.map some ([vI a0, vI a1] : List AV) → w_X6_isValue G.2.2 a0 a1 h Q → Met l yX6_isValue (.code yX6_isValue cX6_isValue 2 (some .boolean) :: xTb) ({ frames := 0, cells := 0, slots := 0, locals := 0 } : Room) (PcA G As h) (QG G (oI Q)) 0 0 (frA G) := by
  intro As a0 a1 h Q hA hw
  refine met_of hA (by decide) (Nat.le_of_ble_eq_true rfl) (fun p e s m args below meth c C hml hr hnm => ?_)
  unfold w_X6_isValue at hw
  refine aw_iload_n (pc := 0) C dX6_isValue_0 rfl rfl ?_
  refine aw_gets (pc := 1) C C.2.2.2.2.2.2.1.1 tw737 dX6_isValue_1 ?_
  refine aw_iload_n (pc := 4) C dX6_isValue_4 rfl rfl ?_
  obtain ⟨⟨k9, hp9⟩, hw⟩ := hw
  refine aw_iald (pc := 5) C dX6_isValue_5 hp9 ?_
  obtain ⟨k_23, hk_23, hw⟩ := jn_out hw
  have J_23 : ∀ (t0_23 : Int) (h_23 : AH), k_23 t0_23 h_23 → AW G p l e ({ frames := 0, cells := 0, slots := 0, locals := 0 } : Room) s m args below meth c 0 0 (MQ below (QG G (oI Q)) args s 0 0 (frA G)) 23 (eOf []) [vI t0_23] h_23 := by
    intro t0_23 h_23 hw
    rw [hk_23] at hw
    obtain ⟨hp9, hw⟩ := hw
    exact aw_zret (pc := 23) C hr dX6_isValue_23 ⟨Nat.le_of_ble_eq_true rfl, Nat.le_of_ble_eq_true rfl⟩ hp9 ⟨_, rfl, hw⟩
  obtain ⟨k_22, hk_22, hw⟩ := jn_out hw
  have J_22 : ∀  (h_22 : AH), k_22  h_22 → AW G p l e ({ frames := 0, cells := 0, slots := 0, locals := 0 } : Room) s m args below meth c 0 0 (MQ below (QG G (oI Q)) args s 0 0 (frA G)) 22 (eOf []) [] h_22 := by
    intro  h_22 hw
    rw [hk_22] at hw
    refine aw_iconst (pc := 22) C dX6_isValue_22 (i := (0 : Int)) (by decide) ?_
    refine aw_sub [] trivial ?_
    exact J_23 _ _ hw
  refine aw_icmp_lt (pc := 6) (tgt := 22) C dX6_isValue_6 (by decide) (fun hc9 => ?_) (fun hc9 => ?_)
  · have hw := hw.1 hc9
    refine aw_sub [] trivial ?_
    exact J_22  _ hw
  · have hw := hw.2 hc9
    refine aw_iload_n (pc := 9) C dX6_isValue_9 rfl rfl ?_
    refine aw_gets (pc := 10) C C.2.2.2.2.2.2.1.2.1 tw739 dX6_isValue_10 ?_
    refine aw_iload_n (pc := 13) C dX6_isValue_13 rfl rfl ?_
    obtain ⟨⟨k9, hp9⟩, hw⟩ := hw
    refine aw_iald (pc := 14) C dX6_isValue_14 hp9 ?_
    refine aw_icmp_gt (pc := 15) (tgt := 22) C dX6_isValue_15 (by decide) (fun hc9 => ?_) (fun hc9 => ?_)
    · have hw := hw.1 hc9
      refine aw_sub [] trivial ?_
      exact J_22  _ hw
    · have hw := hw.2 hc9
      refine aw_iconst (pc := 18) C dX6_isValue_18 (i := (1 : Int)) (by decide) ?_
      refine aw_goto (pc := 19) (tgt := 23) C dX6_isValue_19 (by decide) ?_
      refine aw_sub [] trivial ?_
      exact J_23 _ _ hw
