/-! THE METHODS, BY PROGRAM (wip/whole/gen.py): what each means (w_..), and its contract (met_..) -/
theorem dL_law_0 : decode cL_law 0 = .ok (.new 39, 3) := by decide +kernel
theorem dL_law_3 : decode cL_law 3 = .ok (.dup, 1) := by decide +kernel
theorem dL_law_4 : decode cL_law 4 = .ok (.invokespecial 127, 3) := by decide +kernel
theorem dL_law_7 : decode cL_law 7 = .ok (.astore_n 1, 1) := by decide +kernel
theorem dL_law_8 : decode cL_law 8 = .ok (.bipush 18, 2) := by decide +kernel
theorem dL_law_10 : decode cL_law 10 = .ok (.newarray .int, 2) := by decide +kernel
theorem dL_law_12 : decode cL_law 12 = .ok (.astore_n 2, 1) := by decide +kernel
theorem dL_law_13 : decode cL_law 13 = .ok (.bipush 18, 2) := by decide +kernel
theorem dL_law_15 : decode cL_law 15 = .ok (.newarray .int, 2) := by decide +kernel
theorem dL_law_17 : decode cL_law 17 = .ok (.astore_n 3, 1) := by decide +kernel
theorem dL_law_18 : decode cL_law 18 = .ok (.iconst 3, 1) := by decide +kernel
theorem dL_law_19 : decode cL_law 19 = .ok (.newarray .int, 2) := by decide +kernel
theorem dL_law_21 : decode cL_law 21 = .ok (.astore 4, 2) := by decide +kernel
theorem dL_law_23 : decode cL_law 23 = .ok (.bipush 8, 2) := by decide +kernel
theorem dL_law_25 : decode cL_law 25 = .ok (.newarray .int, 2) := by decide +kernel
theorem dL_law_27 : decode cL_law 27 = .ok (.astore 5, 2) := by decide +kernel
theorem dL_law_29 : decode cL_law 29 = .ok (.aload 5, 2) := by decide +kernel
theorem dL_law_31 : decode cL_law 31 = .ok (.iconst 0, 1) := by decide +kernel
theorem dL_law_32 : decode cL_law 32 = .ok (.iconst 2, 1) := by decide +kernel
theorem dL_law_33 : decode cL_law 33 = .ok (.iastore, 1) := by decide +kernel
theorem dL_law_34 : decode cL_law 34 = .ok (.aload 5, 2) := by decide +kernel
theorem dL_law_36 : decode cL_law 36 = .ok (.iconst 1, 1) := by decide +kernel
theorem dL_law_37 : decode cL_law 37 = .ok (.bipush 60, 2) := by decide +kernel
theorem dL_law_39 : decode cL_law 39 = .ok (.iastore, 1) := by decide +kernel
theorem dL_law_40 : decode cL_law 40 = .ok (.aload 5, 2) := by decide +kernel
theorem dL_law_42 : decode cL_law 42 = .ok (.iconst 2, 1) := by decide +kernel
theorem dL_law_43 : decode cL_law 43 = .ok (.bipush 12, 2) := by decide +kernel
theorem dL_law_45 : decode cL_law 45 = .ok (.iastore, 1) := by decide +kernel
theorem dL_law_46 : decode cL_law 46 = .ok (.aload 5, 2) := by decide +kernel
theorem dL_law_48 : decode cL_law 48 = .ok (.iconst 5, 1) := by decide +kernel
theorem dL_law_49 : decode cL_law 49 = .ok (.iconst 3, 1) := by decide +kernel
theorem dL_law_50 : decode cL_law 50 = .ok (.iastore, 1) := by decide +kernel
theorem dL_law_51 : decode cL_law 51 = .ok (.aload 5, 2) := by decide +kernel
theorem dL_law_53 : decode cL_law 53 = .ok (.bipush 6, 2) := by decide +kernel
theorem dL_law_55 : decode cL_law 55 = .ok (.iconst 2, 1) := by decide +kernel
theorem dL_law_56 : decode cL_law 56 = .ok (.iastore, 1) := by decide +kernel
theorem dL_law_57 : decode cL_law 57 = .ok (.aload 5, 2) := by decide +kernel
theorem dL_law_59 : decode cL_law 59 = .ok (.bipush 7, 2) := by decide +kernel
theorem dL_law_61 : decode cL_law 61 = .ok (.iconst 2, 1) := by decide +kernel
theorem dL_law_62 : decode cL_law 62 = .ok (.iastore, 1) := by decide +kernel
theorem dL_law_63 : decode cL_law 63 = .ok (.aload_n 1, 1) := by decide +kernel
theorem dL_law_64 : decode cL_law 64 = .ok (.iconst 0, 1) := by decide +kernel
theorem dL_law_65 : decode cL_law 65 = .ok (.aload_n 2, 1) := by decide +kernel
theorem dL_law_66 : decode cL_law 66 = .ok (.aload_n 3, 1) := by decide +kernel
theorem dL_law_67 : decode cL_law 67 = .ok (.aload 4, 2) := by decide +kernel
theorem dL_law_69 : decode cL_law 69 = .ok (.aload 5, 2) := by decide +kernel
theorem dL_law_71 : decode cL_law 71 = .ok (.invokestatic 128, 3) := by decide +kernel
theorem dL_law_74 : decode cL_law 74 = .ok (.ifCond .eq 12, 3) := by decide +kernel
theorem dL_law_77 : decode cL_law 77 = .ok (.aload_n 1, 1) := by decide +kernel
theorem dL_law_78 : decode cL_law 78 = .ok (.bipush 12, 2) := by decide +kernel
theorem dL_law_80 : decode cL_law 80 = .ok (.invokevirtual 92, 3) := by decide +kernel
theorem dL_law_83 : decode cL_law 83 = .ok (.ifCond .eq 5, 3) := by decide +kernel
theorem dL_law_86 : decode cL_law 86 = .ok (.iconst 0, 1) := by decide +kernel
theorem dL_law_87 : decode cL_law 87 = .ok (.ireturn, 1) := by decide +kernel
theorem dL_law_88 : decode cL_law 88 = .ok (.iconst 0, 1) := by decide +kernel
theorem dL_law_89 : decode cL_law 89 = .ok (.istore 6, 2) := by decide +kernel
theorem dL_law_91 : decode cL_law 91 = .ok (.iload 6, 2) := by decide +kernel
theorem dL_law_93 : decode cL_law 93 = .ok (.bipush 14, 2) := by decide +kernel
theorem dL_law_95 : decode cL_law 95 = .ok (.if_icmp .ge 94, 3) := by decide +kernel
theorem dL_law_98 : decode cL_law 98 = .ok (.aload_n 0, 1) := by decide +kernel
theorem dL_law_99 : decode cL_law 99 = .ok (.iconst 2, 1) := by decide +kernel
theorem dL_law_100 : decode cL_law 100 = .ok (.iload 6, 2) := by decide +kernel
theorem dL_law_102 : decode cL_law 102 = .ok (.imul, 1) := by decide +kernel
theorem dL_law_103 : decode cL_law 103 = .ok (.invokestatic 132, 3) := by decide +kernel
theorem dL_law_106 : decode cL_law 106 = .ok (.ldc 136, 2) := by decide +kernel
theorem dL_law_108 : decode cL_law 108 = .ok (.iand, 1) := by decide +kernel
theorem dL_law_109 : decode cL_law 109 = .ok (.istore 7, 2) := by decide +kernel
theorem dL_law_111 : decode cL_law 111 = .ok (.aload_n 0, 1) := by decide +kernel
theorem dL_law_112 : decode cL_law 112 = .ok (.iconst 2, 1) := by decide +kernel
theorem dL_law_113 : decode cL_law 113 = .ok (.iload 6, 2) := by decide +kernel
theorem dL_law_115 : decode cL_law 115 = .ok (.imul, 1) := by decide +kernel
theorem dL_law_116 : decode cL_law 116 = .ok (.iconst 1, 1) := by decide +kernel
theorem dL_law_117 : decode cL_law 117 = .ok (.iadd, 1) := by decide +kernel
theorem dL_law_118 : decode cL_law 118 = .ok (.invokestatic 132, 3) := by decide +kernel
theorem dL_law_121 : decode cL_law 121 = .ok (.ldc 136, 2) := by decide +kernel
theorem dL_law_123 : decode cL_law 123 = .ok (.iand, 1) := by decide +kernel
theorem dL_law_124 : decode cL_law 124 = .ok (.istore 8, 2) := by decide +kernel
theorem dL_law_126 : decode cL_law 126 = .ok (.aload_n 1, 1) := by decide +kernel
theorem dL_law_127 : decode cL_law 127 = .ok (.iload 6, 2) := by decide +kernel
theorem dL_law_129 : decode cL_law 129 = .ok (.iconst 2, 1) := by decide +kernel
theorem dL_law_130 : decode cL_law 130 = .ok (.if_icmp .ge 8, 3) := by decide +kernel
theorem dL_law_133 : decode cL_law 133 = .ok (.iload 6, 2) := by decide +kernel
theorem dL_law_135 : decode cL_law 135 = .ok (.goto 13, 3) := by decide +kernel
theorem dL_law_138 : decode cL_law 138 = .ok (.iload 7, 2) := by decide +kernel
theorem dL_law_140 : decode cL_law 140 = .ok (.bipush 13, 2) := by decide +kernel
theorem dL_law_142 : decode cL_law 142 = .ok (.ishr, 1) := by decide +kernel
theorem dL_law_143 : decode cL_law 143 = .ok (.bipush 14, 2) := by decide +kernel
theorem dL_law_145 : decode cL_law 145 = .ok (.invokestatic 99, 3) := by decide +kernel
theorem dL_law_148 : decode cL_law 148 = .ok (.iload 7, 2) := by decide +kernel
theorem dL_law_150 : decode cL_law 150 = .ok (.iload 8, 2) := by decide +kernel
theorem dL_law_152 : decode cL_law 152 = .ok (.aload_n 2, 1) := by decide +kernel
theorem dL_law_153 : decode cL_law 153 = .ok (.aload_n 3, 1) := by decide +kernel
theorem dL_law_154 : decode cL_law 154 = .ok (.aload 4, 2) := by decide +kernel
theorem dL_law_156 : decode cL_law 156 = .ok (.aload 5, 2) := by decide +kernel
theorem dL_law_158 : decode cL_law 158 = .ok (.invokestatic 137, 3) := by decide +kernel
theorem dL_law_161 : decode cL_law 161 = .ok (.ifCond .eq 20, 3) := by decide +kernel
theorem dL_law_164 : decode cL_law 164 = .ok (.aload_n 1, 1) := by decide +kernel
theorem dL_law_165 : decode cL_law 165 = .ok (.iload 8, 2) := by decide +kernel
theorem dL_law_167 : decode cL_law 167 = .ok (.iconst 2, 1) := by decide +kernel
theorem dL_law_168 : decode cL_law 168 = .ok (.ishr, 1) := by decide +kernel
theorem dL_law_169 : decode cL_law 169 = .ok (.aload_n 2, 1) := by decide +kernel
theorem dL_law_170 : decode cL_law 170 = .ok (.aload_n 3, 1) := by decide +kernel
theorem dL_law_171 : decode cL_law 171 = .ok (.aload 4, 2) := by decide +kernel
theorem dL_law_173 : decode cL_law 173 = .ok (.aload 5, 2) := by decide +kernel
theorem dL_law_175 : decode cL_law 175 = .ok (.invokestatic 128, 3) := by decide +kernel
theorem dL_law_178 : decode cL_law 178 = .ok (.ifCond .ne 5, 3) := by decide +kernel
theorem dL_law_181 : decode cL_law 181 = .ok (.iconst 0, 1) := by decide +kernel
theorem dL_law_182 : decode cL_law 182 = .ok (.ireturn, 1) := by decide +kernel
theorem dL_law_183 : decode cL_law 183 = .ok (.iinc 6 1, 3) := by decide +kernel
theorem dL_law_186 : decode cL_law 186 = .ok (.goto (-95), 3) := by decide +kernel
theorem dL_law_189 : decode cL_law 189 = .ok (.aload_n 1, 1) := by decide +kernel
theorem dL_law_190 : decode cL_law 190 = .ok (.bipush 12, 2) := by decide +kernel
theorem dL_law_192 : decode cL_law 192 = .ok (.invokevirtual 92, 3) := by decide +kernel
theorem dL_law_195 : decode cL_law 195 = .ok (.bipush 6, 2) := by decide +kernel
theorem dL_law_197 : decode cL_law 197 = .ok (.if_icmp .ne 7, 3) := by decide +kernel
theorem dL_law_200 : decode cL_law 200 = .ok (.iconst 1, 1) := by decide +kernel
theorem dL_law_201 : decode cL_law 201 = .ok (.goto 4, 3) := by decide +kernel
theorem dL_law_204 : decode cL_law 204 = .ok (.iconst 0, 1) := by decide +kernel
theorem dL_law_205 : decode cL_law 205 = .ok (.ireturn, 1) := by decide +kernel
def w_L_law (zz : Nat → Nat) (a0 : Nat) (h : AH) (Q : Int → AH → Prop) : Prop := ∀ h0 : AH, h0 = nOb h 6 → w_X6_init zz (hn h) h0 (fun  (h4 : AH) => ∀ x1_7 : Nat, x1_7 = (hn h) → ∀ h10 : AH, h10 = nAI h4 18 → ∀ x2_12 : Nat, x2_12 = (hn h4) → ∀ h15 : AH, h15 = nAI h10 18 → ∀ x3_17 : Nat, x3_17 = (hn h10) → ∀ h19 : AH, h19 = nAI h15 3 → ∀ x4_21 : Nat, x4_21 = (hn h15) → ∀ h25 : AH, h25 = nAI h19 8 → ∀ x5_27 : Nat, x5_27 = (hn h19) → okW h25 x5_27 (0 : Int) ∧ ∀ h33 : AH, h33 = saI h25 x5_27 (u1 (haI h25 x5_27) (0 : Int) (2 : Int)) → okW h33 x5_27 (1 : Int) ∧ ∀ h39 : AH, h39 = saI h33 x5_27 (u1 (haI h33 x5_27) (1 : Int) (60 : Int)) → okW h39 x5_27 (2 : Int) ∧ ∀ h45 : AH, h45 = saI h39 x5_27 (u1 (haI h39 x5_27) (2 : Int) (12 : Int)) → okW h45 x5_27 (5 : Int) ∧ ∀ h50 : AH, h50 = saI h45 x5_27 (u1 (haI h45 x5_27) (5 : Int) (3 : Int)) → okW h50 x5_27 (6 : Int) ∧ ∀ h56 : AH, h56 = saI h50 x5_27 (u1 (haI h50 x5_27) (6 : Int) (2 : Int)) → okW h56 x5_27 (7 : Int) ∧ ∀ h62 : AH, h62 = saI h56 x5_27 (u1 (haI h56 x5_27) (7 : Int) (2 : Int)) → w_L_told zz x1_7 (0 : Int) x2_12 x3_17 x4_21 x5_27 h62 (fun (r71 : Int) (h71 : AH) => jn (fun  (h_86 : AH) => Q (0 : Int) h_86) (fun k_86 : AH → Prop => ((r71 = 0) → k_86  h71) ∧ ((¬ (r71 = 0)) → okA h71 x1_7 6 ∧ w_X6_count zz x1_7 (12 : Int) h71 (fun (r80 : Int) (h80 : AH) => ((r80 = 0) → ∃ I_91 : Nat → Int → AH → Prop, (∃ n, n ≤ 14 ∧ I_91 n (0 : Int) h80) ∧ ∀ (n_91 : Nat) (x6_91 : Int) (h_91 : AH), I_91 n_91 x6_91 h_91 → ((((14 : Int) ≤ x6_91) → okA h_91 x1_7 6 ∧ w_X6_count zz x1_7 (12 : Int) h_91 (fun (r192 : Int) (h192 : AH) => jn (fun (t0_205 : Int) (h_205 : AH) => Q t0_205 h_205) (fun k_205 : Int → AH → Prop => ((¬ r192 = (6 : Int)) → k_205 (0 : Int) h192) ∧ ((r192 = (6 : Int)) → k_205 (1 : Int) h192))) (fun _ _ => False)) ∧ ((¬ ((14 : Int) ≤ x6_91)) → inR ((2 : Int) * x6_91) ∧ w_L_cell zz a0 ((2 : Int) * x6_91) h_91 (fun (r103 : Int) (h103 : AH) => ∀ x7_109 : Int, x7_109 = (r103 % 2147483648) → inR ((2 : Int) * x6_91) ∧ inR (((2 : Int) * x6_91) + (1 : Int)) ∧ w_L_cell zz a0 (((2 : Int) * x6_91) + (1 : Int)) h103 (fun (r118 : Int) (h118 : AH) => ∀ x8_124 : Int, x8_124 = (r118 % 2147483648) → jn (fun (t1_148 : Int) (h_148 : AH) => w_L_act zz x1_7 t1_148 x7_109 x8_124 x2_12 x3_17 x4_21 x5_27 h_148 (fun (r158 : Int) (h158 : AH) => jn (fun  (h_181 : AH) => Q (0 : Int) h_181) (fun k_181 : AH → Prop => ((r158 = 0) → k_181  h158) ∧ ((¬ (r158 = 0)) → (0 ≤ (2 : Int) ∧ (2 : Int) < 32) ∧ w_L_told zz x1_7 (x8_124 / (2 : Int) ^ ((2 : Int)).toNat) x2_12 x3_17 x4_21 x5_27 h158 (fun (r175 : Int) (h175 : AH) => ((¬ r175 = 0) → inR (x6_91 + 1) ∧ ∀ x6_183 : Int, x6_183 = (x6_91 + 1) → ∃ m, m < n_91 ∧ I_91 m x6_183 h175) ∧ ((r175 = 0) → k_181  h175)))))) (fun k_148 : Int → AH → Prop => (((2 : Int) ≤ x6_91) → (0 ≤ (13 : Int) ∧ (13 : Int) < 32) ∧ w_L_at zz (x7_109 / (2 : Int) ^ ((13 : Int)).toNat) (14 : Int) h118 (fun (r145 : Int) (h145 : AH) => k_148 r145 h145)) ∧ ((¬ ((2 : Int) ≤ x6_91)) → k_148 x6_91 h118))))))) ∧ ((¬ (r80 = 0)) → k_86  h80)) (fun _ _ => False)))))
set_option maxRecDepth 100000 in
set_option maxHeartbeats 4000000 in
theorem met_L_law (G : GG) (l : Launch) (hst : l.stackTraces = false) {p : Program} {e : Env} {s0 s : State} {m : MethodId} {below : List Frame} {meth : Method} {c : Code} {b0 : Nat} {d0 : Drawn} (hs0 : s = s0.setDrawn d0) (hd0 : s0.drawn.sameBut d0 lw_cs) (hH0 : s.heap.size ≤ G.2.1.size) (C : CF G p s m #[Value.ref b0] meth c cL_law RL) (hml : c.maxLocals = 9) (hr : meth.sig.returnType = ret) (a0 : Nat) (h : AH) (Q : Int → AH → Prop) (hQ : ∀ v h, Q v h → v = 1) (hw : w_L_law G.2.2 a0 h Q) : AW G p l e room_1 s m #[Value.ref b0] below meth c 0 0 (lw_Z below #[Value.ref b0] s0) 0 (eOf [(0, vR a0)]) [] h := by
  unfold w_L_law at hw
  refine aw_new (pc := 0) C ci6 tw17 tw18 tw1 (by decide) dL_law_0 (by show _ ≤ (600104 : Nat); omega) (by show _ ≤ (7301314 : Nat); omega) (aw_nmH (fun h0 e9 => ?_))
  have hw := hw h0 e9
  refine aw_dup (pc := 3) C dL_law_3 rfl ?_
  refine aw_callI (pc := 4) (as := []) C (fun As hA => met_X6_init G l As (hn h) _ _ hA hw) tw19 tw20 tw1 tw21 ⟨rfl, rfl⟩ rfl ⟨by decide, by decide, pd_X6_init⟩ ⟨Nat.le_of_ble_eq_true rfl, Nat.le_of_ble_eq_true rfl⟩ ⟨(by show _ ≤ (600104 : Nat); omega), (by show _ ≤ (7301314 : Nat); omega)⟩ (Nat.le_of_ble_eq_true rfl) dL_law_4 rfl (fun v9 h4 hq9 => ?_)
  obtain ⟨rfl, hw⟩ := hq9
  refine aw_nmR (fun x1_7 e9 => ?_)
  have hw := hw x1_7 e9
  refine aw_astore_n (pc := 7) C dL_law_7 rfl (by rw [hml]; decide) ?_
  refine aw_bipush (pc := 8) C dL_law_8 (i := (18 : Int)) (by decide) ?_
  refine aw_newI (pc := 10) (n := 18) C tw57 dL_law_10 (Nat.le_of_ble_eq_true rfl) (by show _ ≤ (600104 : Nat); omega) (by show _ ≤ (7301314 : Nat); omega) (aw_nmH (fun h10 e9 => ?_))
  have hw := hw h10 e9
  refine aw_nmR (fun x2_12 e9 => ?_)
  have hw := hw x2_12 e9
  refine aw_astore_n (pc := 12) C dL_law_12 rfl (by rw [hml]; decide) ?_
  refine aw_bipush (pc := 13) C dL_law_13 (i := (18 : Int)) (by decide) ?_
  refine aw_newI (pc := 15) (n := 18) C tw57 dL_law_15 (Nat.le_of_ble_eq_true rfl) (by show _ ≤ (600104 : Nat); omega) (by show _ ≤ (7301314 : Nat); omega) (aw_nmH (fun h15 e9 => ?_))
  have hw := hw h15 e9
  refine aw_nmR (fun x3_17 e9 => ?_)
  have hw := hw x3_17 e9
  refine aw_astore_n (pc := 17) C dL_law_17 rfl (by rw [hml]; decide) ?_
  refine aw_iconst (pc := 18) C dL_law_18 (i := (3 : Int)) (by decide) ?_
  refine aw_newI (pc := 19) (n := 3) C tw57 dL_law_19 (Nat.le_of_ble_eq_true rfl) (by show _ ≤ (600104 : Nat); omega) (by show _ ≤ (7301314 : Nat); omega) (aw_nmH (fun h19 e9 => ?_))
  have hw := hw h19 e9
  refine aw_nmR (fun x4_21 e9 => ?_)
  have hw := hw x4_21 e9
  refine aw_astore (pc := 21) C dL_law_21 (by rw [hml]; decide) ?_
  refine aw_bipush (pc := 23) C dL_law_23 (i := (8 : Int)) (by decide) ?_
  refine aw_newI (pc := 25) (n := 8) C tw57 dL_law_25 (Nat.le_of_ble_eq_true rfl) (by show _ ≤ (600104 : Nat); omega) (by show _ ≤ (7301314 : Nat); omega) (aw_nmH (fun h25 e9 => ?_))
  have hw := hw h25 e9
  refine aw_nmR (fun x5_27 e9 => ?_)
  have hw := hw x5_27 e9
  refine aw_astore (pc := 27) C dL_law_27 (by rw [hml]; decide) ?_
  refine aw_aload (pc := 29) C dL_law_29 rfl ?_
  refine aw_iconst (pc := 31) C dL_law_31 (i := (0 : Int)) (by decide) ?_
  refine aw_iconst (pc := 32) C dL_law_32 (i := (2 : Int)) (by decide) ?_
  obtain ⟨⟨k9, hp9⟩, hw⟩ := hw
  refine aw_iast (pc := 33) C dL_law_33 hp9 (aw_nmH (fun h33 e9 => ?_))
  have hw := hw h33 e9
  refine aw_aload (pc := 34) C dL_law_34 rfl ?_
  refine aw_iconst (pc := 36) C dL_law_36 (i := (1 : Int)) (by decide) ?_
  refine aw_bipush (pc := 37) C dL_law_37 (i := (60 : Int)) (by decide) ?_
  obtain ⟨⟨k9, hp9⟩, hw⟩ := hw
  refine aw_iast (pc := 39) C dL_law_39 hp9 (aw_nmH (fun h39 e9 => ?_))
  have hw := hw h39 e9
  refine aw_aload (pc := 40) C dL_law_40 rfl ?_
  refine aw_iconst (pc := 42) C dL_law_42 (i := (2 : Int)) (by decide) ?_
  refine aw_bipush (pc := 43) C dL_law_43 (i := (12 : Int)) (by decide) ?_
  obtain ⟨⟨k9, hp9⟩, hw⟩ := hw
  refine aw_iast (pc := 45) C dL_law_45 hp9 (aw_nmH (fun h45 e9 => ?_))
  have hw := hw h45 e9
  refine aw_aload (pc := 46) C dL_law_46 rfl ?_
  refine aw_iconst (pc := 48) C dL_law_48 (i := (5 : Int)) (by decide) ?_
  refine aw_iconst (pc := 49) C dL_law_49 (i := (3 : Int)) (by decide) ?_
  obtain ⟨⟨k9, hp9⟩, hw⟩ := hw
  refine aw_iast (pc := 50) C dL_law_50 hp9 (aw_nmH (fun h50 e9 => ?_))
  have hw := hw h50 e9
  refine aw_aload (pc := 51) C dL_law_51 rfl ?_
  refine aw_bipush (pc := 53) C dL_law_53 (i := (6 : Int)) (by decide) ?_
  refine aw_iconst (pc := 55) C dL_law_55 (i := (2 : Int)) (by decide) ?_
  obtain ⟨⟨k9, hp9⟩, hw⟩ := hw
  refine aw_iast (pc := 56) C dL_law_56 hp9 (aw_nmH (fun h56 e9 => ?_))
  have hw := hw h56 e9
  refine aw_aload (pc := 57) C dL_law_57 rfl ?_
  refine aw_bipush (pc := 59) C dL_law_59 (i := (7 : Int)) (by decide) ?_
  refine aw_iconst (pc := 61) C dL_law_61 (i := (2 : Int)) (by decide) ?_
  obtain ⟨⟨k9, hp9⟩, hw⟩ := hw
  refine aw_iast (pc := 62) C dL_law_62 hp9 (aw_nmH (fun h62 e9 => ?_))
  have hw := hw h62 e9
  refine aw_aload_n (pc := 63) C dL_law_63 rfl rfl ?_
  refine aw_iconst (pc := 64) C dL_law_64 (i := (0 : Int)) (by decide) ?_
  refine aw_aload_n (pc := 65) C dL_law_65 rfl rfl ?_
  refine aw_aload_n (pc := 66) C dL_law_66 rfl rfl ?_
  refine aw_aload (pc := 67) C dL_law_67 rfl ?_
  refine aw_aload (pc := 69) C dL_law_69 rfl ?_
  refine aw_callS (pc := 71) (as := [vR x1_7, vI (0 : Int), vR x2_12, vR x3_17, vR x4_21, vR x5_27]) C (fun As hA => met_L_told G l As x1_7 (0 : Int) x2_12 x3_17 x4_21 x5_27 _ _ hA hw) tw450 tw451 tw0 tw452 ⟨rfl, rfl⟩ ⟨by decide, by decide, pd_L_told⟩ ⟨Nat.le_of_ble_eq_true rfl, Nat.le_of_ble_eq_true rfl⟩ ⟨(by show _ ≤ (600104 : Nat); omega), (by show _ ≤ (7301314 : Nat); omega)⟩ (Nat.le_of_ble_eq_true rfl) dL_law_71 rfl (fun v9 h71 hq9 => ?_)
  obtain ⟨r71, rfl, hw⟩ := hq9
  obtain ⟨k_86, hk_86, hw⟩ := jn_out hw
  have J_86 : ∀  (h_86 : AH) (bc8 bs8 : Nat), k_86  h_86 → bc8 ≤ 1000 → bs8 ≤ 100000 → AW G p l e room_1 s m #[Value.ref b0] below meth c bc8 bs8 (lw_Z below #[Value.ref b0] s0) 86 (eOf []) [] h_86 := by
    intro  h_86 bc8 bs8 hw hb8 hs8
    rw [hk_86] at hw
    refine aw_iconst (pc := 86) C dL_law_86 (i := (0 : Int)) (by decide) ?_
    exact aw_lawret (pc := 87) hs0 hd0 hH0 C hr dL_law_87 (by omega) (by omega) (hQ _ _ hw)
  refine aw_if_eq (pc := 74) (tgt := 86) C dL_law_74 (by decide) (fun hc9 => ?_) (fun hc9 => ?_)
  · have hw := hw.1 hc9
    refine aw_sub [] trivial ?_
    exact J_86  _ _ _ hw (by omega) (by omega)
  · have hw := hw.2 hc9
    refine aw_aload_n (pc := 77) C dL_law_77 rfl rfl ?_
    refine aw_bipush (pc := 78) C dL_law_78 (i := (12 : Int)) (by decide) ?_
    obtain ⟨hp9, hw⟩ := hw
    refine aw_callV (pc := 80) (as := [vI (12 : Int)]) C ci6 (fun As hA => met_X6_count G l As x1_7 (12 : Int) _ _ hA hw) tw243 tw244 tw245 tw1 tw246 ⟨rfl, rfl⟩ ⟨rfl, by decide, by decide, pd_X6_count⟩ ⟨Nat.le_of_ble_eq_true rfl, Nat.le_of_ble_eq_true rfl⟩ ⟨(by show _ ≤ (600104 : Nat); omega), (by show _ ≤ (7301314 : Nat); omega)⟩ (Nat.le_of_ble_eq_true rfl) dL_law_80 rfl hp9 (fun v9 h80 hq9 => ?_)
    obtain ⟨r80, rfl, hw⟩ := hq9
    refine aw_if_eq (pc := 83) (tgt := 88) C dL_law_83 (by decide) (fun hc9 => ?_) (fun hc9 => ?_)
    · have hw := hw.1 hc9
      refine aw_iconst (pc := 88) C dL_law_88 (i := (0 : Int)) (by decide) ?_
      refine aw_istore (pc := 89) C dL_law_89 (by rw [hml]; decide) ?_
      obtain ⟨I_91, ⟨n9, hn9, hi9⟩, hst9⟩ := hw
      have L_91 : ∀ (n_91 : Nat) (x6_91 : Int) (h_91 : AH) (bc9 bs9 : Nat), I_91 n_91 x6_91 h_91 → bc9 + 6 * n_91 + 6 ≤ 600104 → bs9 + 64 * n_91 + 64 ≤ 7301314 → AW G p l e room_1 s m #[Value.ref b0] below meth c bc9 bs9 (lw_Z below #[Value.ref b0] s0) 91 (eOf [(0, vR a0), (1, vR x1_7), (2, vR x2_12), (3, vR x3_17), (4, vR x4_21), (5, vR x5_27), (6, vI x6_91)]) [] h_91 := by
        intro n_91
        induction n_91 using Nat.strongRecOn with
        | _ n_91 ih_91 =>
        intro x6_91 h_91 bc9 bs9 hi9 hb9 hs9
        have hw := hst9 n_91 x6_91 h_91 hi9
        refine aw_iload (pc := 91) C dL_law_91 rfl ?_
        refine aw_bipush (pc := 93) C dL_law_93 (i := (14 : Int)) (by decide) ?_
        refine aw_icmp_ge (pc := 95) (tgt := 189) C dL_law_95 (by decide) (fun hc9 => ?_) (fun hc9 => ?_)
        · have hw := hw.1 hc9
          refine aw_aload_n (pc := 189) C dL_law_189 rfl rfl ?_
          refine aw_bipush (pc := 190) C dL_law_190 (i := (12 : Int)) (by decide) ?_
          obtain ⟨hp9, hw⟩ := hw
          refine aw_callV (pc := 192) (as := [vI (12 : Int)]) C ci6 (fun As hA => met_X6_count G l As x1_7 (12 : Int) _ _ hA hw) tw243 tw244 tw245 tw1 tw246 ⟨rfl, rfl⟩ ⟨rfl, by decide, by decide, pd_X6_count⟩ ⟨Nat.le_of_ble_eq_true rfl, Nat.le_of_ble_eq_true rfl⟩ ⟨(by show _ ≤ (600104 : Nat); omega), (by show _ ≤ (7301314 : Nat); omega)⟩ (Nat.le_of_ble_eq_true rfl) dL_law_192 rfl hp9 (fun v9 h192 hq9 => ?_)
          obtain ⟨r192, rfl, hw⟩ := hq9
          refine aw_bipush (pc := 195) C dL_law_195 (i := (6 : Int)) (by decide) ?_
          obtain ⟨k_205, hk_205, hw⟩ := jn_out hw
          have J_205 : ∀ (t0_205 : Int) (h_205 : AH) (bc8 bs8 : Nat), k_205 t0_205 h_205 → bc8 ≤ bc9 + 6 → bs8 ≤ bs9 + 64 → AW G p l e room_1 s m #[Value.ref b0] below meth c bc8 bs8 (lw_Z below #[Value.ref b0] s0) 205 (eOf []) [vI t0_205] h_205 := by
            intro t0_205 h_205 bc8 bs8 hw hb8 hs8
            rw [hk_205] at hw
            exact aw_lawret (pc := 205) hs0 hd0 hH0 C hr dL_law_205 (by omega) (by omega) (hQ _ _ hw)
          refine aw_icmp_ne (pc := 197) (tgt := 204) C dL_law_197 (by decide) (fun hc9 => ?_) (fun hc9 => ?_)
          · have hw := hw.1 hc9
            refine aw_iconst (pc := 204) C dL_law_204 (i := (0 : Int)) (by decide) ?_
            refine aw_sub [] trivial ?_
            exact J_205 _ _ _ _ hw (by omega) (by omega)
          · have hw := hw.2 hc9
            refine aw_iconst (pc := 200) C dL_law_200 (i := (1 : Int)) (by decide) ?_
            refine aw_goto (pc := 201) (tgt := 205) C dL_law_201 (by decide) ?_
            refine aw_sub [] trivial ?_
            exact J_205 _ _ _ _ hw (by omega) (by omega)
        · have hw := hw.2 hc9
          refine aw_aload_n (pc := 98) C dL_law_98 rfl rfl ?_
          refine aw_iconst (pc := 99) C dL_law_99 (i := (2 : Int)) (by decide) ?_
          refine aw_iload (pc := 100) C dL_law_100 rfl ?_
          obtain ⟨hp9, hw⟩ := hw
          refine aw_imul (pc := 102) C dL_law_102 hp9 ?_
          refine aw_callS (pc := 103) (as := [vR a0, vI ((2 : Int) * x6_91)]) C (fun As hA => met_L_cell G l As a0 ((2 : Int) * x6_91) _ _ hA hw) tw443 tw444 tw0 tw445 ⟨rfl, rfl⟩ ⟨by decide, by decide, pd_L_cell⟩ ⟨Nat.le_of_ble_eq_true rfl, Nat.le_of_ble_eq_true rfl⟩ ⟨(by show _ ≤ (600104 : Nat); omega), (by show _ ≤ (7301314 : Nat); omega)⟩ (Nat.le_of_ble_eq_true rfl) dL_law_103 rfl (fun v9 h103 hq9 => ?_)
          obtain ⟨r103, rfl, hw⟩ := hq9
          refine aw_ldcI (pc := 106) C (i := (2147483647 : Int)) tw742 (by decide +kernel) dL_law_106 ?_
          refine aw_iandM (pc := 108) C dL_law_108  ?_
          refine aw_nmI (fun x7_109 e9 => ?_)
          have hw := hw x7_109 e9
          refine aw_istore (pc := 109) C dL_law_109 (by rw [hml]; decide) ?_
          refine aw_aload_n (pc := 111) C dL_law_111 rfl rfl ?_
          refine aw_iconst (pc := 112) C dL_law_112 (i := (2 : Int)) (by decide) ?_
          refine aw_iload (pc := 113) C dL_law_113 rfl ?_
          obtain ⟨hp9, hw⟩ := hw
          refine aw_imul (pc := 115) C dL_law_115 hp9 ?_
          refine aw_iconst (pc := 116) C dL_law_116 (i := (1 : Int)) (by decide) ?_
          obtain ⟨hp9, hw⟩ := hw
          refine aw_iadd (pc := 117) C dL_law_117 hp9 ?_
          refine aw_callS (pc := 118) (as := [vR a0, vI (((2 : Int) * x6_91) + (1 : Int))]) C (fun As hA => met_L_cell G l As a0 (((2 : Int) * x6_91) + (1 : Int)) _ _ hA hw) tw443 tw444 tw0 tw445 ⟨rfl, rfl⟩ ⟨by decide, by decide, pd_L_cell⟩ ⟨Nat.le_of_ble_eq_true rfl, Nat.le_of_ble_eq_true rfl⟩ ⟨(by show _ ≤ (600104 : Nat); omega), (by show _ ≤ (7301314 : Nat); omega)⟩ (Nat.le_of_ble_eq_true rfl) dL_law_118 rfl (fun v9 h118 hq9 => ?_)
          obtain ⟨r118, rfl, hw⟩ := hq9
          refine aw_ldcI (pc := 121) C (i := (2147483647 : Int)) tw742 (by decide +kernel) dL_law_121 ?_
          refine aw_iandM (pc := 123) C dL_law_123  ?_
          refine aw_nmI (fun x8_124 e9 => ?_)
          have hw := hw x8_124 e9
          refine aw_istore (pc := 124) C dL_law_124 (by rw [hml]; decide) ?_
          refine aw_aload_n (pc := 126) C dL_law_126 rfl rfl ?_
          refine aw_iload (pc := 127) C dL_law_127 rfl ?_
          refine aw_iconst (pc := 129) C dL_law_129 (i := (2 : Int)) (by decide) ?_
          obtain ⟨k_148, hk_148, hw⟩ := jn_out hw
          have J_148 : ∀ (t1_148 : Int) (h_148 : AH) (bc8 bs8 : Nat), k_148 t1_148 h_148 → bc8 ≤ bc9 + 0 → bs8 ≤ bs9 + 0 → AW G p l e room_1 s m #[Value.ref b0] below meth c bc8 bs8 (lw_Z below #[Value.ref b0] s0) 148 (eOf [(0, vR a0), (1, vR x1_7), (2, vR x2_12), (3, vR x3_17), (4, vR x4_21), (5, vR x5_27), (6, vI x6_91), (7, vI x7_109), (8, vI x8_124)]) [vI t1_148, vR x1_7] h_148 := by
            intro t1_148 h_148 bc8 bs8 hw hb8 hs8
            rw [hk_148] at hw
            refine aw_iload (pc := 148) C dL_law_148 rfl ?_
            refine aw_iload (pc := 150) C dL_law_150 rfl ?_
            refine aw_aload_n (pc := 152) C dL_law_152 rfl rfl ?_
            refine aw_aload_n (pc := 153) C dL_law_153 rfl rfl ?_
            refine aw_aload (pc := 154) C dL_law_154 rfl ?_
            refine aw_aload (pc := 156) C dL_law_156 rfl ?_
            refine aw_callS (pc := 158) (as := [vR x1_7, vI t1_148, vI x7_109, vI x8_124, vR x2_12, vR x3_17, vR x4_21, vR x5_27]) C (fun As hA => met_L_act G l As x1_7 t1_148 x7_109 x8_124 x2_12 x3_17 x4_21 x5_27 _ _ hA hw) tw637 tw638 tw0 tw639 ⟨rfl, rfl⟩ ⟨by decide, by decide, pd_L_act⟩ ⟨Nat.le_of_ble_eq_true rfl, Nat.le_of_ble_eq_true rfl⟩ ⟨(by show _ ≤ (600104 : Nat); omega), (by show _ ≤ (7301314 : Nat); omega)⟩ (Nat.le_of_ble_eq_true rfl) dL_law_158 rfl (fun v9 h158 hq9 => ?_)
            obtain ⟨r158, rfl, hw⟩ := hq9
            obtain ⟨k_181, hk_181, hw⟩ := jn_out hw
            have J_181 : ∀  (h_181 : AH) (bc8 bs8 : Nat), k_181  h_181 → bc8 ≤ bc9 + 6 → bs8 ≤ bs9 + 64 → AW G p l e room_1 s m #[Value.ref b0] below meth c bc8 bs8 (lw_Z below #[Value.ref b0] s0) 181 (eOf []) [] h_181 := by
              intro  h_181 bc8 bs8 hw hb8 hs8
              rw [hk_181] at hw
              refine aw_iconst (pc := 181) C dL_law_181 (i := (0 : Int)) (by decide) ?_
              exact aw_lawret (pc := 182) hs0 hd0 hH0 C hr dL_law_182 (by omega) (by omega) (hQ _ _ hw)
            refine aw_if_eq (pc := 161) (tgt := 181) C dL_law_161 (by decide) (fun hc9 => ?_) (fun hc9 => ?_)
            · have hw := hw.1 hc9
              refine aw_sub [] trivial ?_
              exact J_181  _ _ _ hw (by omega) (by omega)
            · have hw := hw.2 hc9
              refine aw_aload_n (pc := 164) C dL_law_164 rfl rfl ?_
              refine aw_iload (pc := 165) C dL_law_165 rfl ?_
              refine aw_iconst (pc := 167) C dL_law_167 (i := (2 : Int)) (by decide) ?_
              obtain ⟨hp9, hw⟩ := hw
              refine aw_ishr (pc := 168) C dL_law_168 hp9 ?_
              refine aw_aload_n (pc := 169) C dL_law_169 rfl rfl ?_
              refine aw_aload_n (pc := 170) C dL_law_170 rfl rfl ?_
              refine aw_aload (pc := 171) C dL_law_171 rfl ?_
              refine aw_aload (pc := 173) C dL_law_173 rfl ?_
              refine aw_callS (pc := 175) (as := [vR x1_7, vI (x8_124 / (2 : Int) ^ ((2 : Int)).toNat), vR x2_12, vR x3_17, vR x4_21, vR x5_27]) C (fun As hA => met_L_told G l As x1_7 (x8_124 / (2 : Int) ^ ((2 : Int)).toNat) x2_12 x3_17 x4_21 x5_27 _ _ hA hw) tw450 tw451 tw0 tw452 ⟨rfl, rfl⟩ ⟨by decide, by decide, pd_L_told⟩ ⟨Nat.le_of_ble_eq_true rfl, Nat.le_of_ble_eq_true rfl⟩ ⟨(by show _ ≤ (600104 : Nat); omega), (by show _ ≤ (7301314 : Nat); omega)⟩ (Nat.le_of_ble_eq_true rfl) dL_law_175 rfl (fun v9 h175 hq9 => ?_)
              obtain ⟨r175, rfl, hw⟩ := hq9
              refine aw_if_ne (pc := 178) (tgt := 183) C dL_law_178 (by decide) (fun hc9 => ?_) (fun hc9 => ?_)
              · have hw := hw.1 hc9
                obtain ⟨hp9, hw⟩ := hw
                refine aw_iincN (pc := 183) C dL_law_183 (k := 1) (by decide) rfl (by rw [hml]; decide) hp9 (fun x6_183 e9 => ?_)
                have hw := hw x6_183 e9
                refine aw_goto (pc := 186) (tgt := 91) C dL_law_186 (by decide) ?_
                obtain ⟨m9, hm9, hw⟩ := hw
                refine aw_sub [(0, vR a0), (1, vR x1_7), (2, vR x2_12), (3, vR x3_17), (4, vR x4_21), (5, vR x5_27), (6, vI x6_183)] ⟨rfl, rfl, rfl, rfl, rfl, rfl, rfl, trivial⟩ ?_
                exact ih_91 m9 hm9 _ _ _ _ hw (by omega) (by omega)
              · have hw := hw.2 hc9
                refine aw_sub [] trivial ?_
                exact J_181  _ _ _ hw (by omega) (by omega)
          refine aw_icmp_ge (pc := 130) (tgt := 138) C dL_law_130 (by decide) (fun hc9 => ?_) (fun hc9 => ?_)
          · have hw := hw.1 hc9
            refine aw_iload (pc := 138) C dL_law_138 rfl ?_
            refine aw_bipush (pc := 140) C dL_law_140 (i := (13 : Int)) (by decide) ?_
            obtain ⟨hp9, hw⟩ := hw
            refine aw_ishr (pc := 142) C dL_law_142 hp9 ?_
            refine aw_bipush (pc := 143) C dL_law_143 (i := (14 : Int)) (by decide) ?_
            refine aw_callS (pc := 145) (as := [vI (x7_109 / (2 : Int) ^ ((13 : Int)).toNat), vI (14 : Int)]) C (fun As hA => met_L_at G l As (x7_109 / (2 : Int) ^ ((13 : Int)).toNat) (14 : Int) _ _ hA hw) tw447 tw448 tw0 tw449 ⟨rfl, rfl⟩ ⟨by decide, by decide, pd_L_at⟩ ⟨Nat.le_of_ble_eq_true rfl, Nat.le_of_ble_eq_true rfl⟩ ⟨(by show _ ≤ (600104 : Nat); omega), (by show _ ≤ (7301314 : Nat); omega)⟩ (Nat.le_of_ble_eq_true rfl) dL_law_145 rfl (fun v9 h145 hq9 => ?_)
            obtain ⟨r145, rfl, hw⟩ := hq9
            refine aw_sub [(0, vR a0), (1, vR x1_7), (2, vR x2_12), (3, vR x3_17), (4, vR x4_21), (5, vR x5_27), (6, vI x6_91), (7, vI x7_109), (8, vI x8_124)] ⟨rfl, rfl, rfl, rfl, rfl, rfl, rfl, rfl, rfl, trivial⟩ ?_
            exact J_148 _ _ _ _ hw (by omega) (by omega)
          · have hw := hw.2 hc9
            refine aw_iload (pc := 133) C dL_law_133 rfl ?_
            refine aw_goto (pc := 135) (tgt := 148) C dL_law_135 (by decide) ?_
            refine aw_sub [(0, vR a0), (1, vR x1_7), (2, vR x2_12), (3, vR x3_17), (4, vR x4_21), (5, vR x5_27), (6, vI x6_91), (7, vI x7_109), (8, vI x8_124)] ⟨rfl, rfl, rfl, rfl, rfl, rfl, rfl, rfl, rfl, trivial⟩ ?_
            exact J_148 _ _ _ _ hw (by omega) (by omega)
      refine aw_sub [(0, vR a0), (1, vR x1_7), (2, vR x2_12), (3, vR x3_17), (4, vR x4_21), (5, vR x5_27), (6, vI (0 : Int))] ⟨rfl, rfl, rfl, rfl, rfl, rfl, rfl, trivial⟩ ?_
      exact L_91 n9 _ _ _ _ hi9 (by omega) (by omega)
    · have hw := hw.2 hc9
      refine aw_sub [] trivial ?_
      exact J_86  _ _ _ hw (by omega) (by omega)
