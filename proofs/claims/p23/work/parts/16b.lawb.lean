/-! THE METHODS, BY PROGRAM (wip/whole/gen.py): what each means (w_..), and its contract (met_..) -/
theorem dL_frame_0 : decode cL_frame 0 = .ok (.iconst 0, 1) := by decide +kernel
theorem dL_frame_1 : decode cL_frame 1 = .ok (.istore 11, 2) := by decide +kernel
theorem dL_frame_3 : decode cL_frame 3 = .ok (.iconst 0, 1) := by decide +kernel
theorem dL_frame_4 : decode cL_frame 4 = .ok (.istore 12, 2) := by decide +kernel
theorem dL_frame_6 : decode cL_frame 6 = .ok (.iconst 0, 1) := by decide +kernel
theorem dL_frame_7 : decode cL_frame 7 = .ok (.istore 13, 2) := by decide +kernel
theorem dL_frame_9 : decode cL_frame 9 = .ok (.iconst 0, 1) := by decide +kernel
theorem dL_frame_10 : decode cL_frame 10 = .ok (.istore 14, 2) := by decide +kernel
theorem dL_frame_12 : decode cL_frame 12 = .ok (.iload 14, 2) := by decide +kernel
theorem dL_frame_14 : decode cL_frame 14 = .ok (.bipush 80, 2) := by decide +kernel
theorem dL_frame_16 : decode cL_frame 16 = .ok (.if_icmp .ge 134, 3) := by decide +kernel
theorem dL_frame_19 : decode cL_frame 19 = .ok (.iconst 0, 1) := by decide +kernel
theorem dL_frame_20 : decode cL_frame 20 = .ok (.istore 15, 2) := by decide +kernel
theorem dL_frame_22 : decode cL_frame 22 = .ok (.iconst 0, 1) := by decide +kernel
theorem dL_frame_23 : decode cL_frame 23 = .ok (.istore 16, 2) := by decide +kernel
theorem dL_frame_25 : decode cL_frame 25 = .ok (.iload 16, 2) := by decide +kernel
theorem dL_frame_27 : decode cL_frame 27 = .ok (.aload 8, 2) := by decide +kernel
theorem dL_frame_29 : decode cL_frame 29 = .ok (.iconst 0, 1) := by decide +kernel
theorem dL_frame_30 : decode cL_frame 30 = .ok (.iaload, 1) := by decide +kernel
theorem dL_frame_31 : decode cL_frame 31 = .ok (.if_icmp .ge 29, 3) := by decide +kernel
theorem dL_frame_34 : decode cL_frame 34 = .ok (.iload 15, 2) := by decide +kernel
theorem dL_frame_36 : decode cL_frame 36 = .ok (.aload 10, 2) := by decide +kernel
theorem dL_frame_38 : decode cL_frame 38 = .ok (.iload 16, 2) := by decide +kernel
theorem dL_frame_40 : decode cL_frame 40 = .ok (.iaload, 1) := by decide +kernel
theorem dL_frame_41 : decode cL_frame 41 = .ok (.iload 14, 2) := by decide +kernel
theorem dL_frame_43 : decode cL_frame 43 = .ok (.if_icmp .ne 7, 3) := by decide +kernel
theorem dL_frame_46 : decode cL_frame 46 = .ok (.iconst 1, 1) := by decide +kernel
theorem dL_frame_47 : decode cL_frame 47 = .ok (.goto 4, 3) := by decide +kernel
theorem dL_frame_50 : decode cL_frame 50 = .ok (.iconst 0, 1) := by decide +kernel
theorem dL_frame_51 : decode cL_frame 51 = .ok (.iadd, 1) := by decide +kernel
theorem dL_frame_52 : decode cL_frame 52 = .ok (.istore 15, 2) := by decide +kernel
theorem dL_frame_54 : decode cL_frame 54 = .ok (.iinc 16 1, 3) := by decide +kernel
theorem dL_frame_57 : decode cL_frame 57 = .ok (.goto (-32), 3) := by decide +kernel
theorem dL_frame_60 : decode cL_frame 60 = .ok (.iload 13, 2) := by decide +kernel
theorem dL_frame_62 : decode cL_frame 62 = .ok (.iload 15, 2) := by decide +kernel
theorem dL_frame_64 : decode cL_frame 64 = .ok (.iconst 1, 1) := by decide +kernel
theorem dL_frame_65 : decode cL_frame 65 = .ok (.if_icmp .le 7, 3) := by decide +kernel
theorem dL_frame_68 : decode cL_frame 68 = .ok (.iconst 1, 1) := by decide +kernel
theorem dL_frame_69 : decode cL_frame 69 = .ok (.goto 4, 3) := by decide +kernel
theorem dL_frame_72 : decode cL_frame 72 = .ok (.iconst 0, 1) := by decide +kernel
theorem dL_frame_73 : decode cL_frame 73 = .ok (.iadd, 1) := by decide +kernel
theorem dL_frame_74 : decode cL_frame 74 = .ok (.istore 13, 2) := by decide +kernel
theorem dL_frame_76 : decode cL_frame 76 = .ok (.iload 14, 2) := by decide +kernel
theorem dL_frame_78 : decode cL_frame 78 = .ok (.iload_n 3, 1) := by decide +kernel
theorem dL_frame_79 : decode cL_frame 79 = .ok (.iload 4, 2) := by decide +kernel
theorem dL_frame_81 : decode cL_frame 81 = .ok (.aload 6, 2) := by decide +kernel
theorem dL_frame_83 : decode cL_frame 83 = .ok (.aload 7, 2) := by decide +kernel
theorem dL_frame_85 : decode cL_frame 85 = .ok (.aload 8, 2) := by decide +kernel
theorem dL_frame_87 : decode cL_frame 87 = .ok (.aload 9, 2) := by decide +kernel
theorem dL_frame_89 : decode cL_frame 89 = .ok (.aload 10, 2) := by decide +kernel
theorem dL_frame_91 : decode cL_frame 91 = .ok (.invokestatic 34, 3) := by decide +kernel
theorem dL_frame_94 : decode cL_frame 94 = .ok (.istore 16, 2) := by decide +kernel
theorem dL_frame_96 : decode cL_frame 96 = .ok (.iload 11, 2) := by decide +kernel
theorem dL_frame_98 : decode cL_frame 98 = .ok (.iload 16, 2) := by decide +kernel
theorem dL_frame_100 : decode cL_frame 100 = .ok (.bipush 32, 2) := by decide +kernel
theorem dL_frame_102 : decode cL_frame 102 = .ok (.if_icmp .ne 7, 3) := by decide +kernel
theorem dL_frame_105 : decode cL_frame 105 = .ok (.iconst 0, 1) := by decide +kernel
theorem dL_frame_106 : decode cL_frame 106 = .ok (.goto 4, 3) := by decide +kernel
theorem dL_frame_109 : decode cL_frame 109 = .ok (.iconst 1, 1) := by decide +kernel
theorem dL_frame_110 : decode cL_frame 110 = .ok (.iadd, 1) := by decide +kernel
theorem dL_frame_111 : decode cL_frame 111 = .ok (.istore 11, 2) := by decide +kernel
theorem dL_frame_113 : decode cL_frame 113 = .ok (.iload 14, 2) := by decide +kernel
theorem dL_frame_115 : decode cL_frame 115 = .ok (.iload_n 2, 1) := by decide +kernel
theorem dL_frame_116 : decode cL_frame 116 = .ok (.iadd, 1) := by decide +kernel
theorem dL_frame_117 : decode cL_frame 117 = .ok (.iconst 5, 1) := by decide +kernel
theorem dL_frame_118 : decode cL_frame 118 = .ok (.irem, 1) := by decide +kernel
theorem dL_frame_119 : decode cL_frame 119 = .ok (.ifCond .ne 25, 3) := by decide +kernel
theorem dL_frame_122 : decode cL_frame 122 = .ok (.aload_n 0, 1) := by decide +kernel
theorem dL_frame_123 : decode cL_frame 123 = .ok (.iload_n 1, 1) := by decide +kernel
theorem dL_frame_124 : decode cL_frame 124 = .ok (.iload 14, 2) := by decide +kernel
theorem dL_frame_126 : decode cL_frame 126 = .ok (.bipush 16, 2) := by decide +kernel
theorem dL_frame_128 : decode cL_frame 128 = .ok (.idiv, 1) := by decide +kernel
theorem dL_frame_129 : decode cL_frame 129 = .ok (.iload 14, 2) := by decide +kernel
theorem dL_frame_131 : decode cL_frame 131 = .ok (.bipush 16, 2) := by decide +kernel
theorem dL_frame_133 : decode cL_frame 133 = .ok (.irem, 1) := by decide +kernel
theorem dL_frame_134 : decode cL_frame 134 = .ok (.invokevirtual 38, 3) := by decide +kernel
theorem dL_frame_137 : decode cL_frame 137 = .ok (.iload 16, 2) := by decide +kernel
theorem dL_frame_139 : decode cL_frame 139 = .ok (.if_icmp .eq 5, 3) := by decide +kernel
theorem dL_frame_142 : decode cL_frame 142 = .ok (.iconst 0, 1) := by decide +kernel
theorem dL_frame_143 : decode cL_frame 143 = .ok (.ireturn, 1) := by decide +kernel
theorem dL_frame_144 : decode cL_frame 144 = .ok (.iinc 14 1, 3) := by decide +kernel
theorem dL_frame_147 : decode cL_frame 147 = .ok (.goto (-135), 3) := by decide +kernel
theorem dL_frame_150 : decode cL_frame 150 = .ok (.iconst 0, 1) := by decide +kernel
theorem dL_frame_151 : decode cL_frame 151 = .ok (.istore 14, 2) := by decide +kernel
theorem dL_frame_153 : decode cL_frame 153 = .ok (.iload 14, 2) := by decide +kernel
theorem dL_frame_155 : decode cL_frame 155 = .ok (.aload 8, 2) := by decide +kernel
theorem dL_frame_157 : decode cL_frame 157 = .ok (.iconst 0, 1) := by decide +kernel
theorem dL_frame_158 : decode cL_frame 158 = .ok (.iaload, 1) := by decide +kernel
theorem dL_frame_159 : decode cL_frame 159 = .ok (.if_icmp .ge 44, 3) := by decide +kernel
theorem dL_frame_162 : decode cL_frame 162 = .ok (.iload 12, 2) := by decide +kernel
theorem dL_frame_164 : decode cL_frame 164 = .ok (.aload 10, 2) := by decide +kernel
theorem dL_frame_166 : decode cL_frame 166 = .ok (.iload 14, 2) := by decide +kernel
theorem dL_frame_168 : decode cL_frame 168 = .ok (.iaload, 1) := by decide +kernel
theorem dL_frame_169 : decode cL_frame 169 = .ok (.ifCond .ge 7, 3) := by decide +kernel
theorem dL_frame_172 : decode cL_frame 172 = .ok (.iconst 0, 1) := by decide +kernel
theorem dL_frame_173 : decode cL_frame 173 = .ok (.goto 4, 3) := by decide +kernel
theorem dL_frame_176 : decode cL_frame 176 = .ok (.iconst 1, 1) := by decide +kernel
theorem dL_frame_177 : decode cL_frame 177 = .ok (.iadd, 1) := by decide +kernel
theorem dL_frame_178 : decode cL_frame 178 = .ok (.istore 12, 2) := by decide +kernel
theorem dL_frame_180 : decode cL_frame 180 = .ok (.aload_n 0, 1) := by decide +kernel
theorem dL_frame_181 : decode cL_frame 181 = .ok (.iload_n 1, 1) := by decide +kernel
theorem dL_frame_182 : decode cL_frame 182 = .ok (.iload 14, 2) := by decide +kernel
theorem dL_frame_184 : decode cL_frame 184 = .ok (.invokevirtual 43, 3) := by decide +kernel
theorem dL_frame_187 : decode cL_frame 187 = .ok (.aload 10, 2) := by decide +kernel
theorem dL_frame_189 : decode cL_frame 189 = .ok (.iload 14, 2) := by decide +kernel
theorem dL_frame_191 : decode cL_frame 191 = .ok (.iaload, 1) := by decide +kernel
theorem dL_frame_192 : decode cL_frame 192 = .ok (.if_icmp .eq 5, 3) := by decide +kernel
theorem dL_frame_195 : decode cL_frame 195 = .ok (.iconst 0, 1) := by decide +kernel
theorem dL_frame_196 : decode cL_frame 196 = .ok (.ireturn, 1) := by decide +kernel
theorem dL_frame_197 : decode cL_frame 197 = .ok (.iinc 14 1, 3) := by decide +kernel
theorem dL_frame_200 : decode cL_frame 200 = .ok (.goto (-47), 3) := by decide +kernel
theorem dL_frame_203 : decode cL_frame 203 = .ok (.aload_n 0, 1) := by decide +kernel
theorem dL_frame_204 : decode cL_frame 204 = .ok (.iload_n 1, 1) := by decide +kernel
theorem dL_frame_205 : decode cL_frame 205 = .ok (.iconst 0, 1) := by decide +kernel
theorem dL_frame_206 : decode cL_frame 206 = .ok (.invokevirtual 47, 3) := by decide +kernel
theorem dL_frame_209 : decode cL_frame 209 = .ok (.iload 11, 2) := by decide +kernel
theorem dL_frame_211 : decode cL_frame 211 = .ok (.if_icmp .ne 40, 3) := by decide +kernel
theorem dL_frame_214 : decode cL_frame 214 = .ok (.aload_n 0, 1) := by decide +kernel
theorem dL_frame_215 : decode cL_frame 215 = .ok (.iload_n 1, 1) := by decide +kernel
theorem dL_frame_216 : decode cL_frame 216 = .ok (.iconst 2, 1) := by decide +kernel
theorem dL_frame_217 : decode cL_frame 217 = .ok (.invokevirtual 47, 3) := by decide +kernel
theorem dL_frame_220 : decode cL_frame 220 = .ok (.iload 5, 2) := by decide +kernel
theorem dL_frame_222 : decode cL_frame 222 = .ok (.if_icmp .ne 29, 3) := by decide +kernel
theorem dL_frame_225 : decode cL_frame 225 = .ok (.aload_n 0, 1) := by decide +kernel
theorem dL_frame_226 : decode cL_frame 226 = .ok (.iload_n 1, 1) := by decide +kernel
theorem dL_frame_227 : decode cL_frame 227 = .ok (.iconst 3, 1) := by decide +kernel
theorem dL_frame_228 : decode cL_frame 228 = .ok (.invokevirtual 47, 3) := by decide +kernel
theorem dL_frame_231 : decode cL_frame 231 = .ok (.iload 13, 2) := by decide +kernel
theorem dL_frame_233 : decode cL_frame 233 = .ok (.if_icmp .ne 18, 3) := by decide +kernel
theorem dL_frame_236 : decode cL_frame 236 = .ok (.aload_n 0, 1) := by decide +kernel
theorem dL_frame_237 : decode cL_frame 237 = .ok (.iload_n 1, 1) := by decide +kernel
theorem dL_frame_238 : decode cL_frame 238 = .ok (.iconst 4, 1) := by decide +kernel
theorem dL_frame_239 : decode cL_frame 239 = .ok (.invokevirtual 47, 3) := by decide +kernel
theorem dL_frame_242 : decode cL_frame 242 = .ok (.iload 12, 2) := by decide +kernel
theorem dL_frame_244 : decode cL_frame 244 = .ok (.if_icmp .ne 7, 3) := by decide +kernel
theorem dL_frame_247 : decode cL_frame 247 = .ok (.iconst 1, 1) := by decide +kernel
theorem dL_frame_248 : decode cL_frame 248 = .ok (.goto 4, 3) := by decide +kernel
theorem dL_frame_251 : decode cL_frame 251 = .ok (.iconst 0, 1) := by decide +kernel
theorem dL_frame_252 : decode cL_frame 252 = .ok (.ireturn, 1) := by decide +kernel
theorem pd_L_frame : (parseMethodDescriptor yL_frame.desc).map (fun d => d.parameters.length) = some 11 := by decide +kernel
def w_L_frame (zz : Nat → Nat) (a0 : Nat) (a1 : Int) (a2 : Int) (a3 : Int) (a4 : Int) (a5 : Int) (a6 : Nat) (a7 : Nat) (a8 : Nat) (a9 : Nat) (a10 : Nat) (h : AH) (Q : Int → AH → Prop) : Prop := ∃ I_12 : Nat → Int → Int → Int → AH → Prop, (∃ n, I_12 n (0 : Int) (0 : Int) (0 : Int) h) ∧ ∀ (n_12 : Nat) (x11_12 : Int) (x13_12 : Int) (x14_12 : Int) (h_12 : AH), I_12 n_12 x11_12 x13_12 x14_12 h_12 → ((((80 : Int) ≤ x14_12) → ∃ I_153 : Nat → Int → Int → AH → Prop, (∃ n, I_153 n (0 : Int) (0 : Int) h_12) ∧ ∀ (n_153 : Nat) (x12_153 : Int) (x14_153 : Int) (h_153 : AH), I_153 n_153 x12_153 x14_153 h_153 → (okI h_153 a8 (0 : Int) ∧ (((haI h_153 a8 (0 : Int)) ≤ x14_153) → okA h_153 a0 6 ∧ w_X6_frame zz a0 a1 (0 : Int) h_153 (fun (r206 : Int) (h206 : AH) => jn (fun (t0_252 : Int) (h_252 : AH) => (t0_252 = 0 ∨ t0_252 = 1) ∧ Q t0_252 h_252) (fun k_252 : Int → AH → Prop => jn (fun  (h_251 : AH) => k_252 (0 : Int) h_251) (fun k_251 : AH → Prop => ((¬ r206 = x11_12) → k_251  h206) ∧ ((r206 = x11_12) → okA h206 a0 6 ∧ w_X6_frame zz a0 a1 (2 : Int) h206 (fun (r217 : Int) (h217 : AH) => ((¬ r217 = a5) → k_251  h217) ∧ ((r217 = a5) → okA h217 a0 6 ∧ w_X6_frame zz a0 a1 (3 : Int) h217 (fun (r228 : Int) (h228 : AH) => ((¬ r228 = x13_12) → k_251  h228) ∧ ((r228 = x13_12) → okA h228 a0 6 ∧ w_X6_frame zz a0 a1 (4 : Int) h228 (fun (r239 : Int) (h239 : AH) => ((¬ r239 = x12_153) → k_251  h239) ∧ ((r239 = x12_153) → k_252 (1 : Int) h239)) (fun _ _ => False))) (fun _ _ => False))) (fun _ _ => False))))) (fun _ _ => False)) ∧ ((¬ ((haI h_153 a8 (0 : Int)) ≤ x14_153)) → okI h_153 a10 x14_153 ∧ jn (fun (t1_177 : Int) (h_177 : AH) => inR (x12_153 + t1_177) ∧ ∀ x12_178 : Int, x12_178 = (x12_153 + t1_177) → okA h_177 a0 6 ∧ w_X6_place zz a0 a1 x14_153 h_177 (fun (r184 : Int) (h184 : AH) => okI h184 a10 x14_153 ∧ ((r184 = (haI h184 a10 x14_153)) → inR (x14_153 + 1) ∧ ∀ x14_197 : Int, x14_197 = (x14_153 + 1) → ∃ m, m < n_153 ∧ I_153 m x12_178 x14_197 h184) ∧ ((¬ (r184 = (haI h184 a10 x14_153))) → ((0 : Int) = 0 ∨ (0 : Int) = 1) ∧ Q (0 : Int) h184)) (fun _ _ => False)) (fun k_177 : Int → AH → Prop => ((0 ≤ (haI h_153 a10 x14_153)) → k_177 (1 : Int) h_153) ∧ ((¬ (0 ≤ (haI h_153 a10 x14_153))) → k_177 (0 : Int) h_153))))) ∧ ((¬ ((80 : Int) ≤ x14_12)) → ∃ I_25 : Nat → Int → Int → AH → Prop, (∃ n, I_25 n (0 : Int) (0 : Int) h_12) ∧ ∀ (n_25 : Nat) (x15_25 : Int) (x16_25 : Int) (h_25 : AH), I_25 n_25 x15_25 x16_25 h_25 → (okI h_25 a8 (0 : Int) ∧ (((haI h_25 a8 (0 : Int)) ≤ x16_25) → jn (fun (t1_73 : Int) (h_73 : AH) => inR (x13_12 + t1_73) ∧ ∀ x13_74 : Int, x13_74 = (x13_12 + t1_73) → w_L_shown zz x14_12 a3 a4 a6 a7 a8 a9 a10 h_73 (fun (r91 : Int) (h91 : AH) => jn (fun (t1_110 : Int) (h_110 : AH) => inR (x11_12 + t1_110) ∧ ∀ x11_111 : Int, x11_111 = (x11_12 + t1_110) → inR (x14_12 + a2) ∧ (0 ≤ (x14_12 + a2) ∧ 0 < (5 : Int)) ∧ jn (fun  (h_144 : AH) => inR (x14_12 + 1) ∧ ∀ x14_144 : Int, x14_144 = (x14_12 + 1) → ∃ m, m < n_12 ∧ I_12 m x11_111 x13_74 x14_144 h_144) (fun k_144 : AH → Prop => ((¬ ((x14_12 + a2) % (5 : Int)) = 0) → k_144  h_110) ∧ ((((x14_12 + a2) % (5 : Int)) = 0) → (0 ≤ x14_12 ∧ 0 < (16 : Int)) ∧ (0 ≤ x14_12 ∧ 0 < (16 : Int)) ∧ okA h_110 a0 6 ∧ w_X6_at zz a0 a1 (x14_12 / (16 : Int)) (x14_12 % (16 : Int)) h_110 (fun (r134 : Int) (h134 : AH) => ((r134 = r91) → k_144  h134) ∧ ((¬ (r134 = r91)) → ((0 : Int) = 0 ∨ (0 : Int) = 1) ∧ Q (0 : Int) h134)) (fun _ _ => False)))) (fun k_110 : Int → AH → Prop => ((¬ r91 = (32 : Int)) → k_110 (1 : Int) h91) ∧ ((r91 = (32 : Int)) → k_110 (0 : Int) h91)))) (fun k_73 : Int → AH → Prop => ((x15_25 ≤ (1 : Int)) → k_73 (0 : Int) h_25) ∧ ((¬ (x15_25 ≤ (1 : Int))) → k_73 (1 : Int) h_25))) ∧ ((¬ ((haI h_25 a8 (0 : Int)) ≤ x16_25)) → okI h_25 a10 x16_25 ∧ jn (fun (t1_51 : Int) (h_51 : AH) => inR (x15_25 + t1_51) ∧ ∀ x15_52 : Int, x15_52 = (x15_25 + t1_51) → inR (x16_25 + 1) ∧ ∀ x16_54 : Int, x16_54 = (x16_25 + 1) → ∃ m, m < n_25 ∧ I_25 m x15_52 x16_54 h_51) (fun k_51 : Int → AH → Prop => ((¬ (haI h_25 a10 x16_25) = x14_12) → k_51 (0 : Int) h_25) ∧ (((haI h_25 a10 x16_25) = x14_12) → k_51 (1 : Int) h_25))))))
set_option maxRecDepth 100000 in
set_option maxHeartbeats 4000000 in
theorem met_L_frame (G : GG) (l : Launch) : ∀ (As : List Value) (a0 : Nat) (a1 : Int) (a2 : Int) (a3 : Int) (a4 : Int) (a5 : Int) (a6 : Nat) (a7 : Nat) (a8 : Nat) (a9 : Nat) (a10 : Nat) (h : AH) (Q : Int → AH → Prop), As.map ab = List.map some ([vR a0, vI a1, vI a2, vI a3, vI a4, vI a5, vR a6, vR a7, vR a8, vR a9, vR a10] : List AV) → w_L_frame G.2.2 a0 a1 a2 a3 a4 a5 a6 a7 a8 a9 a10 h Q → Met l yL_frame (.code yL_frame cL_frame 17 (some .boolean) :: xTb) ({ frames := 7, cells := 0, slots := 0, locals := 159 } : Room) (PcA G As h) (QG G (oI Q)) 0 0 (frA G) := by
  intro As a0 a1 a2 a3 a4 a5 a6 a7 a8 a9 a10 h Q hA hw
  refine met_of hA (by decide) (Nat.le_of_ble_eq_true rfl) (fun p e s m args below meth c C hml hr hnm => ?_)
  unfold w_L_frame at hw
  refine aw_iconst (pc := 0) C dL_frame_0 (i := (0 : Int)) (by decide) ?_
  refine aw_istore (pc := 1) C dL_frame_1 (by rw [hml]; decide) ?_
  refine aw_iconst (pc := 3) C dL_frame_3 (i := (0 : Int)) (by decide) ?_
  refine aw_istore (pc := 4) C dL_frame_4 (by rw [hml]; decide) ?_
  refine aw_iconst (pc := 6) C dL_frame_6 (i := (0 : Int)) (by decide) ?_
  refine aw_istore (pc := 7) C dL_frame_7 (by rw [hml]; decide) ?_
  refine aw_iconst (pc := 9) C dL_frame_9 (i := (0 : Int)) (by decide) ?_
  refine aw_istore (pc := 10) C dL_frame_10 (by rw [hml]; decide) ?_
  obtain ⟨I_12, ⟨n9, hi9⟩, hst9⟩ := hw
  have L_12 : ∀ (n_12 : Nat) (x11_12 : Int) (x13_12 : Int) (x14_12 : Int) (h_12 : AH), I_12 n_12 x11_12 x13_12 x14_12 h_12 → AW G p l e ({ frames := 7, cells := 0, slots := 0, locals := 159 } : Room) s m args below meth c 0 0 (MQ below (QG G (oI Q)) args s 0 0 (frA G)) 12 (eOf [(0, vR a0), (1, vI a1), (2, vI a2), (3, vI a3), (4, vI a4), (5, vI a5), (6, vR a6), (7, vR a7), (8, vR a8), (9, vR a9), (10, vR a10), (11, vI x11_12), (12, vI (0 : Int)), (13, vI x13_12), (14, vI x14_12)]) [] h_12 := by
    intro n_12
    induction n_12 using Nat.strongRecOn with
    | _ n_12 ih_12 =>
    intro x11_12 x13_12 x14_12 h_12 hi9
    have hw := hst9 n_12 x11_12 x13_12 x14_12 h_12 hi9
    refine aw_iload (pc := 12) C dL_frame_12 rfl ?_
    refine aw_bipush (pc := 14) C dL_frame_14 (i := (80 : Int)) (by decide) ?_
    refine aw_icmp_ge (pc := 16) (tgt := 150) C dL_frame_16 (by decide) (fun hc9 => ?_) (fun hc9 => ?_)
    · have hw := hw.1 hc9
      refine aw_iconst (pc := 150) C dL_frame_150 (i := (0 : Int)) (by decide) ?_
      refine aw_istore (pc := 151) C dL_frame_151 (by rw [hml]; decide) ?_
      obtain ⟨I_153, ⟨n9, hi9⟩, hst9⟩ := hw
      have L_153 : ∀ (n_153 : Nat) (x12_153 : Int) (x14_153 : Int) (h_153 : AH), I_153 n_153 x12_153 x14_153 h_153 → AW G p l e ({ frames := 7, cells := 0, slots := 0, locals := 159 } : Room) s m args below meth c 0 0 (MQ below (QG G (oI Q)) args s 0 0 (frA G)) 153 (eOf [(0, vR a0), (1, vI a1), (5, vI a5), (8, vR a8), (10, vR a10), (11, vI x11_12), (12, vI x12_153), (13, vI x13_12), (14, vI x14_153)]) [] h_153 := by
        intro n_153
        induction n_153 using Nat.strongRecOn with
        | _ n_153 ih_153 =>
        intro x12_153 x14_153 h_153 hi9
        have hw := hst9 n_153 x12_153 x14_153 h_153 hi9
        refine aw_iload (pc := 153) C dL_frame_153 rfl ?_
        refine aw_aload (pc := 155) C dL_frame_155 rfl ?_
        refine aw_iconst (pc := 157) C dL_frame_157 (i := (0 : Int)) (by decide) ?_
        obtain ⟨⟨k9, hp9⟩, hw⟩ := hw
        refine aw_iald (pc := 158) C dL_frame_158 hp9 ?_
        refine aw_icmp_ge (pc := 159) (tgt := 203) C dL_frame_159 (by decide) (fun hc9 => ?_) (fun hc9 => ?_)
        · have hw := hw.1 hc9
          refine aw_aload_n (pc := 203) C dL_frame_203 rfl rfl ?_
          refine aw_iload_n (pc := 204) C dL_frame_204 rfl rfl ?_
          refine aw_iconst (pc := 205) C dL_frame_205 (i := (0 : Int)) (by decide) ?_
          obtain ⟨hp9, hw⟩ := hw
          refine aw_callV (pc := 206) (as := [vI a1, vI (0 : Int)]) C ci6 (fun As hA => met_X6_frame G l As a0 a1 (0 : Int) _ _ hA hw) tw555 tw556 tw557 tw1 tw558 ⟨rfl, rfl⟩ ⟨rfl, by decide, by decide, pd_X6_frame⟩ ⟨Nat.le_of_ble_eq_true rfl, Nat.le_of_ble_eq_true rfl⟩ ⟨(Nat.le_of_ble_eq_true rfl), (Nat.le_of_ble_eq_true rfl)⟩ (Nat.le_of_ble_eq_true rfl) dL_frame_206 rfl hp9 (fun v9 h206 hq9 => ?_)
          obtain ⟨r206, rfl, hw⟩ := hq9
          refine aw_iload (pc := 209) C dL_frame_209 rfl ?_
          obtain ⟨k_252, hk_252, hw⟩ := jn_out hw
          have J_252 : ∀ (t0_252 : Int) (h_252 : AH), k_252 t0_252 h_252 → AW G p l e ({ frames := 7, cells := 0, slots := 0, locals := 159 } : Room) s m args below meth c 0 0 (MQ below (QG G (oI Q)) args s 0 0 (frA G)) 252 (eOf []) [vI t0_252] h_252 := by
            intro t0_252 h_252 hw
            rw [hk_252] at hw
            obtain ⟨hp9, hw⟩ := hw
            exact aw_zret (pc := 252) C hr dL_frame_252 ⟨Nat.le_of_ble_eq_true rfl, Nat.le_of_ble_eq_true rfl⟩ hp9 ⟨_, rfl, hw⟩
          obtain ⟨k_251, hk_251, hw⟩ := jn_out hw
          have J_251 : ∀  (h_251 : AH), k_251  h_251 → AW G p l e ({ frames := 7, cells := 0, slots := 0, locals := 159 } : Room) s m args below meth c 0 0 (MQ below (QG G (oI Q)) args s 0 0 (frA G)) 251 (eOf []) [] h_251 := by
            intro  h_251 hw
            rw [hk_251] at hw
            refine aw_iconst (pc := 251) C dL_frame_251 (i := (0 : Int)) (by decide) ?_
            refine aw_sub [] trivial ?_
            exact J_252 _ _ hw
          refine aw_icmp_ne (pc := 211) (tgt := 251) C dL_frame_211 (by decide) (fun hc9 => ?_) (fun hc9 => ?_)
          · have hw := hw.1 hc9
            refine aw_sub [] trivial ?_
            exact J_251  _ hw
          · have hw := hw.2 hc9
            refine aw_aload_n (pc := 214) C dL_frame_214 rfl rfl ?_
            refine aw_iload_n (pc := 215) C dL_frame_215 rfl rfl ?_
            refine aw_iconst (pc := 216) C dL_frame_216 (i := (2 : Int)) (by decide) ?_
            obtain ⟨hp9, hw⟩ := hw
            refine aw_callV (pc := 217) (as := [vI a1, vI (2 : Int)]) C ci6 (fun As hA => met_X6_frame G l As a0 a1 (2 : Int) _ _ hA hw) tw555 tw556 tw557 tw1 tw558 ⟨rfl, rfl⟩ ⟨rfl, by decide, by decide, pd_X6_frame⟩ ⟨Nat.le_of_ble_eq_true rfl, Nat.le_of_ble_eq_true rfl⟩ ⟨(Nat.le_of_ble_eq_true rfl), (Nat.le_of_ble_eq_true rfl)⟩ (Nat.le_of_ble_eq_true rfl) dL_frame_217 rfl hp9 (fun v9 h217 hq9 => ?_)
            obtain ⟨r217, rfl, hw⟩ := hq9
            refine aw_iload (pc := 220) C dL_frame_220 rfl ?_
            refine aw_icmp_ne (pc := 222) (tgt := 251) C dL_frame_222 (by decide) (fun hc9 => ?_) (fun hc9 => ?_)
            · have hw := hw.1 hc9
              refine aw_sub [] trivial ?_
              exact J_251  _ hw
            · have hw := hw.2 hc9
              refine aw_aload_n (pc := 225) C dL_frame_225 rfl rfl ?_
              refine aw_iload_n (pc := 226) C dL_frame_226 rfl rfl ?_
              refine aw_iconst (pc := 227) C dL_frame_227 (i := (3 : Int)) (by decide) ?_
              obtain ⟨hp9, hw⟩ := hw
              refine aw_callV (pc := 228) (as := [vI a1, vI (3 : Int)]) C ci6 (fun As hA => met_X6_frame G l As a0 a1 (3 : Int) _ _ hA hw) tw555 tw556 tw557 tw1 tw558 ⟨rfl, rfl⟩ ⟨rfl, by decide, by decide, pd_X6_frame⟩ ⟨Nat.le_of_ble_eq_true rfl, Nat.le_of_ble_eq_true rfl⟩ ⟨(Nat.le_of_ble_eq_true rfl), (Nat.le_of_ble_eq_true rfl)⟩ (Nat.le_of_ble_eq_true rfl) dL_frame_228 rfl hp9 (fun v9 h228 hq9 => ?_)
              obtain ⟨r228, rfl, hw⟩ := hq9
              refine aw_iload (pc := 231) C dL_frame_231 rfl ?_
              refine aw_icmp_ne (pc := 233) (tgt := 251) C dL_frame_233 (by decide) (fun hc9 => ?_) (fun hc9 => ?_)
              · have hw := hw.1 hc9
                refine aw_sub [] trivial ?_
                exact J_251  _ hw
              · have hw := hw.2 hc9
                refine aw_aload_n (pc := 236) C dL_frame_236 rfl rfl ?_
                refine aw_iload_n (pc := 237) C dL_frame_237 rfl rfl ?_
                refine aw_iconst (pc := 238) C dL_frame_238 (i := (4 : Int)) (by decide) ?_
                obtain ⟨hp9, hw⟩ := hw
                refine aw_callV (pc := 239) (as := [vI a1, vI (4 : Int)]) C ci6 (fun As hA => met_X6_frame G l As a0 a1 (4 : Int) _ _ hA hw) tw555 tw556 tw557 tw1 tw558 ⟨rfl, rfl⟩ ⟨rfl, by decide, by decide, pd_X6_frame⟩ ⟨Nat.le_of_ble_eq_true rfl, Nat.le_of_ble_eq_true rfl⟩ ⟨(Nat.le_of_ble_eq_true rfl), (Nat.le_of_ble_eq_true rfl)⟩ (Nat.le_of_ble_eq_true rfl) dL_frame_239 rfl hp9 (fun v9 h239 hq9 => ?_)
                obtain ⟨r239, rfl, hw⟩ := hq9
                refine aw_iload (pc := 242) C dL_frame_242 rfl ?_
                refine aw_icmp_ne (pc := 244) (tgt := 251) C dL_frame_244 (by decide) (fun hc9 => ?_) (fun hc9 => ?_)
                · have hw := hw.1 hc9
                  refine aw_sub [] trivial ?_
                  exact J_251  _ hw
                · have hw := hw.2 hc9
                  refine aw_iconst (pc := 247) C dL_frame_247 (i := (1 : Int)) (by decide) ?_
                  refine aw_goto (pc := 248) (tgt := 252) C dL_frame_248 (by decide) ?_
                  refine aw_sub [] trivial ?_
                  exact J_252 _ _ hw
        · have hw := hw.2 hc9
          refine aw_iload (pc := 162) C dL_frame_162 rfl ?_
          refine aw_aload (pc := 164) C dL_frame_164 rfl ?_
          refine aw_iload (pc := 166) C dL_frame_166 rfl ?_
          obtain ⟨⟨k9, hp9⟩, hw⟩ := hw
          refine aw_iald (pc := 168) C dL_frame_168 hp9 ?_
          obtain ⟨k_177, hk_177, hw⟩ := jn_out hw
          have J_177 : ∀ (t1_177 : Int) (h_177 : AH), k_177 t1_177 h_177 → AW G p l e ({ frames := 7, cells := 0, slots := 0, locals := 159 } : Room) s m args below meth c 0 0 (MQ below (QG G (oI Q)) args s 0 0 (frA G)) 177 (eOf [(0, vR a0), (1, vI a1), (5, vI a5), (8, vR a8), (10, vR a10), (11, vI x11_12), (13, vI x13_12), (14, vI x14_153)]) [vI t1_177, vI x12_153] h_177 := by
            intro t1_177 h_177 hw
            rw [hk_177] at hw
            obtain ⟨hp9, hw⟩ := hw
            refine aw_iadd (pc := 177) C dL_frame_177 hp9 ?_
            refine aw_nmI (fun x12_178 e9 => ?_)
            have hw := hw x12_178 e9
            refine aw_istore (pc := 178) C dL_frame_178 (by rw [hml]; decide) ?_
            refine aw_aload_n (pc := 180) C dL_frame_180 rfl rfl ?_
            refine aw_iload_n (pc := 181) C dL_frame_181 rfl rfl ?_
            refine aw_iload (pc := 182) C dL_frame_182 rfl ?_
            obtain ⟨hp9, hw⟩ := hw
            refine aw_callV (pc := 184) (as := [vI a1, vI x14_153]) C ci6 (fun As hA => met_X6_place G l As a0 a1 x14_153 _ _ hA hw) tw544 tw545 tw546 tw1 tw547 ⟨rfl, rfl⟩ ⟨rfl, by decide, by decide, pd_X6_place⟩ ⟨Nat.le_of_ble_eq_true rfl, Nat.le_of_ble_eq_true rfl⟩ ⟨(Nat.le_of_ble_eq_true rfl), (Nat.le_of_ble_eq_true rfl)⟩ (Nat.le_of_ble_eq_true rfl) dL_frame_184 rfl hp9 (fun v9 h184 hq9 => ?_)
            obtain ⟨r184, rfl, hw⟩ := hq9
            refine aw_aload (pc := 187) C dL_frame_187 rfl ?_
            refine aw_iload (pc := 189) C dL_frame_189 rfl ?_
            obtain ⟨⟨k9, hp9⟩, hw⟩ := hw
            refine aw_iald (pc := 191) C dL_frame_191 hp9 ?_
            refine aw_icmp_eq (pc := 192) (tgt := 197) C dL_frame_192 (by decide) (fun hc9 => ?_) (fun hc9 => ?_)
            · have hw := hw.1 hc9
              obtain ⟨hp9, hw⟩ := hw
              refine aw_iincN (pc := 197) C dL_frame_197 (k := 1) (by decide) rfl (by rw [hml]; decide) hp9 (fun x14_197 e9 => ?_)
              have hw := hw x14_197 e9
              refine aw_goto (pc := 200) (tgt := 153) C dL_frame_200 (by decide) ?_
              obtain ⟨m9, hm9, hw⟩ := hw
              refine aw_sub [(0, vR a0), (1, vI a1), (5, vI a5), (8, vR a8), (10, vR a10), (11, vI x11_12), (12, vI x12_178), (13, vI x13_12), (14, vI x14_197)] ⟨rfl, rfl, rfl, rfl, rfl, rfl, rfl, rfl, rfl, trivial⟩ ?_
              exact ih_153 m9 hm9 _ _ _ hw
            · have hw := hw.2 hc9
              refine aw_iconst (pc := 195) C dL_frame_195 (i := (0 : Int)) (by decide) ?_
              obtain ⟨hp9, hw⟩ := hw
              exact aw_zret (pc := 196) C hr dL_frame_196 ⟨Nat.le_of_ble_eq_true rfl, Nat.le_of_ble_eq_true rfl⟩ hp9 ⟨_, rfl, hw⟩
          refine aw_if_ge (pc := 169) (tgt := 176) C dL_frame_169 (by decide) (fun hc9 => ?_) (fun hc9 => ?_)
          · have hw := hw.1 hc9
            refine aw_iconst (pc := 176) C dL_frame_176 (i := (1 : Int)) (by decide) ?_
            refine aw_sub [(0, vR a0), (1, vI a1), (5, vI a5), (8, vR a8), (10, vR a10), (11, vI x11_12), (13, vI x13_12), (14, vI x14_153)] ⟨rfl, rfl, rfl, rfl, rfl, rfl, rfl, rfl, trivial⟩ ?_
            exact J_177 _ _ hw
          · have hw := hw.2 hc9
            refine aw_iconst (pc := 172) C dL_frame_172 (i := (0 : Int)) (by decide) ?_
            refine aw_goto (pc := 173) (tgt := 177) C dL_frame_173 (by decide) ?_
            refine aw_sub [(0, vR a0), (1, vI a1), (5, vI a5), (8, vR a8), (10, vR a10), (11, vI x11_12), (13, vI x13_12), (14, vI x14_153)] ⟨rfl, rfl, rfl, rfl, rfl, rfl, rfl, rfl, trivial⟩ ?_
            exact J_177 _ _ hw
      refine aw_sub [(0, vR a0), (1, vI a1), (5, vI a5), (8, vR a8), (10, vR a10), (11, vI x11_12), (12, vI (0 : Int)), (13, vI x13_12), (14, vI (0 : Int))] ⟨rfl, rfl, rfl, rfl, rfl, rfl, rfl, rfl, rfl, trivial⟩ ?_
      exact L_153 n9 _ _ _ hi9
    · have hw := hw.2 hc9
      refine aw_iconst (pc := 19) C dL_frame_19 (i := (0 : Int)) (by decide) ?_
      refine aw_istore (pc := 20) C dL_frame_20 (by rw [hml]; decide) ?_
      refine aw_iconst (pc := 22) C dL_frame_22 (i := (0 : Int)) (by decide) ?_
      refine aw_istore (pc := 23) C dL_frame_23 (by rw [hml]; decide) ?_
      obtain ⟨I_25, ⟨n9, hi9⟩, hst9⟩ := hw
      have L_25 : ∀ (n_25 : Nat) (x15_25 : Int) (x16_25 : Int) (h_25 : AH), I_25 n_25 x15_25 x16_25 h_25 → AW G p l e ({ frames := 7, cells := 0, slots := 0, locals := 159 } : Room) s m args below meth c 0 0 (MQ below (QG G (oI Q)) args s 0 0 (frA G)) 25 (eOf [(0, vR a0), (1, vI a1), (2, vI a2), (3, vI a3), (4, vI a4), (5, vI a5), (6, vR a6), (7, vR a7), (8, vR a8), (9, vR a9), (10, vR a10), (11, vI x11_12), (12, vI (0 : Int)), (13, vI x13_12), (14, vI x14_12), (15, vI x15_25), (16, vI x16_25)]) [] h_25 := by
        intro n_25
        induction n_25 using Nat.strongRecOn with
        | _ n_25 ih_25 =>
        intro x15_25 x16_25 h_25 hi9
        have hw := hst9 n_25 x15_25 x16_25 h_25 hi9
        refine aw_iload (pc := 25) C dL_frame_25 rfl ?_
        refine aw_aload (pc := 27) C dL_frame_27 rfl ?_
        refine aw_iconst (pc := 29) C dL_frame_29 (i := (0 : Int)) (by decide) ?_
        obtain ⟨⟨k9, hp9⟩, hw⟩ := hw
        refine aw_iald (pc := 30) C dL_frame_30 hp9 ?_
        refine aw_icmp_ge (pc := 31) (tgt := 60) C dL_frame_31 (by decide) (fun hc9 => ?_) (fun hc9 => ?_)
        · have hw := hw.1 hc9
          refine aw_iload (pc := 60) C dL_frame_60 rfl ?_
          refine aw_iload (pc := 62) C dL_frame_62 rfl ?_
          refine aw_iconst (pc := 64) C dL_frame_64 (i := (1 : Int)) (by decide) ?_
          obtain ⟨k_73, hk_73, hw⟩ := jn_out hw
          have J_73 : ∀ (t1_73 : Int) (h_73 : AH), k_73 t1_73 h_73 → AW G p l e ({ frames := 7, cells := 0, slots := 0, locals := 159 } : Room) s m args below meth c 0 0 (MQ below (QG G (oI Q)) args s 0 0 (frA G)) 73 (eOf [(0, vR a0), (1, vI a1), (2, vI a2), (3, vI a3), (4, vI a4), (5, vI a5), (6, vR a6), (7, vR a7), (8, vR a8), (9, vR a9), (10, vR a10), (11, vI x11_12), (12, vI (0 : Int)), (14, vI x14_12)]) [vI t1_73, vI x13_12] h_73 := by
            intro t1_73 h_73 hw
            rw [hk_73] at hw
            obtain ⟨hp9, hw⟩ := hw
            refine aw_iadd (pc := 73) C dL_frame_73 hp9 ?_
            refine aw_nmI (fun x13_74 e9 => ?_)
            have hw := hw x13_74 e9
            refine aw_istore (pc := 74) C dL_frame_74 (by rw [hml]; decide) ?_
            refine aw_iload (pc := 76) C dL_frame_76 rfl ?_
            refine aw_iload_n (pc := 78) C dL_frame_78 rfl rfl ?_
            refine aw_iload (pc := 79) C dL_frame_79 rfl ?_
            refine aw_aload (pc := 81) C dL_frame_81 rfl ?_
            refine aw_aload (pc := 83) C dL_frame_83 rfl ?_
            refine aw_aload (pc := 85) C dL_frame_85 rfl ?_
            refine aw_aload (pc := 87) C dL_frame_87 rfl ?_
            refine aw_aload (pc := 89) C dL_frame_89 rfl ?_
            refine aw_callS (pc := 91) (as := [vI x14_12, vI a3, vI a4, vR a6, vR a7, vR a8, vR a9, vR a10]) C (fun As hA => met_L_shown G l As x14_12 a3 a4 a6 a7 a8 a9 a10 _ _ hA hw) tw474 tw475 tw0 tw476 ⟨rfl, rfl⟩ ⟨by decide, by decide, pd_L_shown⟩ ⟨Nat.le_of_ble_eq_true rfl, Nat.le_of_ble_eq_true rfl⟩ ⟨(Nat.le_of_ble_eq_true rfl), (Nat.le_of_ble_eq_true rfl)⟩ (Nat.le_of_ble_eq_true rfl) dL_frame_91 rfl (fun v9 h91 hq9 => ?_)
            obtain ⟨r91, rfl, hw⟩ := hq9
            refine aw_istore (pc := 94) C dL_frame_94 (by rw [hml]; decide) ?_
            refine aw_iload (pc := 96) C dL_frame_96 rfl ?_
            refine aw_iload (pc := 98) C dL_frame_98 rfl ?_
            refine aw_bipush (pc := 100) C dL_frame_100 (i := (32 : Int)) (by decide) ?_
            obtain ⟨k_110, hk_110, hw⟩ := jn_out hw
            have J_110 : ∀ (t1_110 : Int) (h_110 : AH), k_110 t1_110 h_110 → AW G p l e ({ frames := 7, cells := 0, slots := 0, locals := 159 } : Room) s m args below meth c 0 0 (MQ below (QG G (oI Q)) args s 0 0 (frA G)) 110 (eOf [(0, vR a0), (1, vI a1), (2, vI a2), (3, vI a3), (4, vI a4), (5, vI a5), (6, vR a6), (7, vR a7), (8, vR a8), (9, vR a9), (10, vR a10), (12, vI (0 : Int)), (13, vI x13_74), (14, vI x14_12), (16, vI r91)]) [vI t1_110, vI x11_12] h_110 := by
              intro t1_110 h_110 hw
              rw [hk_110] at hw
              obtain ⟨hp9, hw⟩ := hw
              refine aw_iadd (pc := 110) C dL_frame_110 hp9 ?_
              refine aw_nmI (fun x11_111 e9 => ?_)
              have hw := hw x11_111 e9
              refine aw_istore (pc := 111) C dL_frame_111 (by rw [hml]; decide) ?_
              refine aw_iload (pc := 113) C dL_frame_113 rfl ?_
              refine aw_iload_n (pc := 115) C dL_frame_115 rfl rfl ?_
              obtain ⟨hp9, hw⟩ := hw
              refine aw_iadd (pc := 116) C dL_frame_116 hp9 ?_
              refine aw_iconst (pc := 117) C dL_frame_117 (i := (5 : Int)) (by decide) ?_
              obtain ⟨hp9, hw⟩ := hw
              refine aw_irem (pc := 118) C dL_frame_118 hp9 ?_
              obtain ⟨k_144, hk_144, hw⟩ := jn_out hw
              have J_144 : ∀  (h_144 : AH), k_144  h_144 → AW G p l e ({ frames := 7, cells := 0, slots := 0, locals := 159 } : Room) s m args below meth c 0 0 (MQ below (QG G (oI Q)) args s 0 0 (frA G)) 144 (eOf [(0, vR a0), (1, vI a1), (2, vI a2), (3, vI a3), (4, vI a4), (5, vI a5), (6, vR a6), (7, vR a7), (8, vR a8), (9, vR a9), (10, vR a10), (11, vI x11_111), (12, vI (0 : Int)), (13, vI x13_74), (14, vI x14_12)]) [] h_144 := by
                intro  h_144 hw
                rw [hk_144] at hw
                obtain ⟨hp9, hw⟩ := hw
                refine aw_iincN (pc := 144) C dL_frame_144 (k := 1) (by decide) rfl (by rw [hml]; decide) hp9 (fun x14_144 e9 => ?_)
                have hw := hw x14_144 e9
                refine aw_goto (pc := 147) (tgt := 12) C dL_frame_147 (by decide) ?_
                obtain ⟨m9, hm9, hw⟩ := hw
                refine aw_sub [(0, vR a0), (1, vI a1), (2, vI a2), (3, vI a3), (4, vI a4), (5, vI a5), (6, vR a6), (7, vR a7), (8, vR a8), (9, vR a9), (10, vR a10), (11, vI x11_111), (12, vI (0 : Int)), (13, vI x13_74), (14, vI x14_144)] ⟨rfl, rfl, rfl, rfl, rfl, rfl, rfl, rfl, rfl, rfl, rfl, rfl, rfl, rfl, rfl, trivial⟩ ?_
                exact ih_12 m9 hm9 _ _ _ _ hw
              refine aw_if_ne (pc := 119) (tgt := 144) C dL_frame_119 (by decide) (fun hc9 => ?_) (fun hc9 => ?_)
              · have hw := hw.1 hc9
                refine aw_sub [(0, vR a0), (1, vI a1), (2, vI a2), (3, vI a3), (4, vI a4), (5, vI a5), (6, vR a6), (7, vR a7), (8, vR a8), (9, vR a9), (10, vR a10), (11, vI x11_111), (12, vI (0 : Int)), (13, vI x13_74), (14, vI x14_12)] ⟨rfl, rfl, rfl, rfl, rfl, rfl, rfl, rfl, rfl, rfl, rfl, rfl, rfl, rfl, rfl, trivial⟩ ?_
                exact J_144  _ hw
              · have hw := hw.2 hc9
                refine aw_aload_n (pc := 122) C dL_frame_122 rfl rfl ?_
                refine aw_iload_n (pc := 123) C dL_frame_123 rfl rfl ?_
                refine aw_iload (pc := 124) C dL_frame_124 rfl ?_
                refine aw_bipush (pc := 126) C dL_frame_126 (i := (16 : Int)) (by decide) ?_
                obtain ⟨hp9, hw⟩ := hw
                refine aw_idiv (pc := 128) C dL_frame_128 hp9 ?_
                refine aw_iload (pc := 129) C dL_frame_129 rfl ?_
                refine aw_bipush (pc := 131) C dL_frame_131 (i := (16 : Int)) (by decide) ?_
                obtain ⟨hp9, hw⟩ := hw
                refine aw_irem (pc := 133) C dL_frame_133 hp9 ?_
                obtain ⟨hp9, hw⟩ := hw
                refine aw_callV (pc := 134) (as := [vI a1, vI (x14_12 / (16 : Int)), vI (x14_12 % (16 : Int))]) C ci6 (fun As hA => met_X6_at G l As a0 a1 (x14_12 / (16 : Int)) (x14_12 % (16 : Int)) _ _ hA hw) tw477 tw478 tw479 tw1 tw480 ⟨rfl, rfl⟩ ⟨rfl, by decide, by decide, pd_X6_at⟩ ⟨Nat.le_of_ble_eq_true rfl, Nat.le_of_ble_eq_true rfl⟩ ⟨(Nat.le_of_ble_eq_true rfl), (Nat.le_of_ble_eq_true rfl)⟩ (Nat.le_of_ble_eq_true rfl) dL_frame_134 rfl hp9 (fun v9 h134 hq9 => ?_)
                obtain ⟨r134, rfl, hw⟩ := hq9
                refine aw_iload (pc := 137) C dL_frame_137 rfl ?_
                refine aw_icmp_eq (pc := 139) (tgt := 144) C dL_frame_139 (by decide) (fun hc9 => ?_) (fun hc9 => ?_)
                · have hw := hw.1 hc9
                  refine aw_sub [(0, vR a0), (1, vI a1), (2, vI a2), (3, vI a3), (4, vI a4), (5, vI a5), (6, vR a6), (7, vR a7), (8, vR a8), (9, vR a9), (10, vR a10), (11, vI x11_111), (12, vI (0 : Int)), (13, vI x13_74), (14, vI x14_12)] ⟨rfl, rfl, rfl, rfl, rfl, rfl, rfl, rfl, rfl, rfl, rfl, rfl, rfl, rfl, rfl, trivial⟩ ?_
                  exact J_144  _ hw
                · have hw := hw.2 hc9
                  refine aw_iconst (pc := 142) C dL_frame_142 (i := (0 : Int)) (by decide) ?_
                  obtain ⟨hp9, hw⟩ := hw
                  exact aw_zret (pc := 143) C hr dL_frame_143 ⟨Nat.le_of_ble_eq_true rfl, Nat.le_of_ble_eq_true rfl⟩ hp9 ⟨_, rfl, hw⟩
            refine aw_icmp_ne (pc := 102) (tgt := 109) C dL_frame_102 (by decide) (fun hc9 => ?_) (fun hc9 => ?_)
            · have hw := hw.1 hc9
              refine aw_iconst (pc := 109) C dL_frame_109 (i := (1 : Int)) (by decide) ?_
              refine aw_sub [(0, vR a0), (1, vI a1), (2, vI a2), (3, vI a3), (4, vI a4), (5, vI a5), (6, vR a6), (7, vR a7), (8, vR a8), (9, vR a9), (10, vR a10), (12, vI (0 : Int)), (13, vI x13_74), (14, vI x14_12), (16, vI r91)] ⟨rfl, rfl, rfl, rfl, rfl, rfl, rfl, rfl, rfl, rfl, rfl, rfl, rfl, rfl, rfl, trivial⟩ ?_
              exact J_110 _ _ hw
            · have hw := hw.2 hc9
              refine aw_iconst (pc := 105) C dL_frame_105 (i := (0 : Int)) (by decide) ?_
              refine aw_goto (pc := 106) (tgt := 110) C dL_frame_106 (by decide) ?_
              refine aw_sub [(0, vR a0), (1, vI a1), (2, vI a2), (3, vI a3), (4, vI a4), (5, vI a5), (6, vR a6), (7, vR a7), (8, vR a8), (9, vR a9), (10, vR a10), (12, vI (0 : Int)), (13, vI x13_74), (14, vI x14_12), (16, vI r91)] ⟨rfl, rfl, rfl, rfl, rfl, rfl, rfl, rfl, rfl, rfl, rfl, rfl, rfl, rfl, rfl, trivial⟩ ?_
              exact J_110 _ _ hw
          refine aw_icmp_le (pc := 65) (tgt := 72) C dL_frame_65 (by decide) (fun hc9 => ?_) (fun hc9 => ?_)
          · have hw := hw.1 hc9
            refine aw_iconst (pc := 72) C dL_frame_72 (i := (0 : Int)) (by decide) ?_
            refine aw_sub [(0, vR a0), (1, vI a1), (2, vI a2), (3, vI a3), (4, vI a4), (5, vI a5), (6, vR a6), (7, vR a7), (8, vR a8), (9, vR a9), (10, vR a10), (11, vI x11_12), (12, vI (0 : Int)), (14, vI x14_12)] ⟨rfl, rfl, rfl, rfl, rfl, rfl, rfl, rfl, rfl, rfl, rfl, rfl, rfl, rfl, trivial⟩ ?_
            exact J_73 _ _ hw
          · have hw := hw.2 hc9
            refine aw_iconst (pc := 68) C dL_frame_68 (i := (1 : Int)) (by decide) ?_
            refine aw_goto (pc := 69) (tgt := 73) C dL_frame_69 (by decide) ?_
            refine aw_sub [(0, vR a0), (1, vI a1), (2, vI a2), (3, vI a3), (4, vI a4), (5, vI a5), (6, vR a6), (7, vR a7), (8, vR a8), (9, vR a9), (10, vR a10), (11, vI x11_12), (12, vI (0 : Int)), (14, vI x14_12)] ⟨rfl, rfl, rfl, rfl, rfl, rfl, rfl, rfl, rfl, rfl, rfl, rfl, rfl, rfl, trivial⟩ ?_
            exact J_73 _ _ hw
        · have hw := hw.2 hc9
          refine aw_iload (pc := 34) C dL_frame_34 rfl ?_
          refine aw_aload (pc := 36) C dL_frame_36 rfl ?_
          refine aw_iload (pc := 38) C dL_frame_38 rfl ?_
          obtain ⟨⟨k9, hp9⟩, hw⟩ := hw
          refine aw_iald (pc := 40) C dL_frame_40 hp9 ?_
          refine aw_iload (pc := 41) C dL_frame_41 rfl ?_
          obtain ⟨k_51, hk_51, hw⟩ := jn_out hw
          have J_51 : ∀ (t1_51 : Int) (h_51 : AH), k_51 t1_51 h_51 → AW G p l e ({ frames := 7, cells := 0, slots := 0, locals := 159 } : Room) s m args below meth c 0 0 (MQ below (QG G (oI Q)) args s 0 0 (frA G)) 51 (eOf [(0, vR a0), (1, vI a1), (2, vI a2), (3, vI a3), (4, vI a4), (5, vI a5), (6, vR a6), (7, vR a7), (8, vR a8), (9, vR a9), (10, vR a10), (11, vI x11_12), (12, vI (0 : Int)), (13, vI x13_12), (14, vI x14_12), (16, vI x16_25)]) [vI t1_51, vI x15_25] h_51 := by
            intro t1_51 h_51 hw
            rw [hk_51] at hw
            obtain ⟨hp9, hw⟩ := hw
            refine aw_iadd (pc := 51) C dL_frame_51 hp9 ?_
            refine aw_nmI (fun x15_52 e9 => ?_)
            have hw := hw x15_52 e9
            refine aw_istore (pc := 52) C dL_frame_52 (by rw [hml]; decide) ?_
            obtain ⟨hp9, hw⟩ := hw
            refine aw_iincN (pc := 54) C dL_frame_54 (k := 1) (by decide) rfl (by rw [hml]; decide) hp9 (fun x16_54 e9 => ?_)
            have hw := hw x16_54 e9
            refine aw_goto (pc := 57) (tgt := 25) C dL_frame_57 (by decide) ?_
            obtain ⟨m9, hm9, hw⟩ := hw
            refine aw_sub [(0, vR a0), (1, vI a1), (2, vI a2), (3, vI a3), (4, vI a4), (5, vI a5), (6, vR a6), (7, vR a7), (8, vR a8), (9, vR a9), (10, vR a10), (11, vI x11_12), (12, vI (0 : Int)), (13, vI x13_12), (14, vI x14_12), (15, vI x15_52), (16, vI x16_54)] ⟨rfl, rfl, rfl, rfl, rfl, rfl, rfl, rfl, rfl, rfl, rfl, rfl, rfl, rfl, rfl, rfl, rfl, trivial⟩ ?_
            exact ih_25 m9 hm9 _ _ _ hw
          refine aw_icmp_ne (pc := 43) (tgt := 50) C dL_frame_43 (by decide) (fun hc9 => ?_) (fun hc9 => ?_)
          · have hw := hw.1 hc9
            refine aw_iconst (pc := 50) C dL_frame_50 (i := (0 : Int)) (by decide) ?_
            refine aw_sub [(0, vR a0), (1, vI a1), (2, vI a2), (3, vI a3), (4, vI a4), (5, vI a5), (6, vR a6), (7, vR a7), (8, vR a8), (9, vR a9), (10, vR a10), (11, vI x11_12), (12, vI (0 : Int)), (13, vI x13_12), (14, vI x14_12), (16, vI x16_25)] ⟨rfl, rfl, rfl, rfl, rfl, rfl, rfl, rfl, rfl, rfl, rfl, rfl, rfl, rfl, rfl, rfl, trivial⟩ ?_
            exact J_51 _ _ hw
          · have hw := hw.2 hc9
            refine aw_iconst (pc := 46) C dL_frame_46 (i := (1 : Int)) (by decide) ?_
            refine aw_goto (pc := 47) (tgt := 51) C dL_frame_47 (by decide) ?_
            refine aw_sub [(0, vR a0), (1, vI a1), (2, vI a2), (3, vI a3), (4, vI a4), (5, vI a5), (6, vR a6), (7, vR a7), (8, vR a8), (9, vR a9), (10, vR a10), (11, vI x11_12), (12, vI (0 : Int)), (13, vI x13_12), (14, vI x14_12), (16, vI x16_25)] ⟨rfl, rfl, rfl, rfl, rfl, rfl, rfl, rfl, rfl, rfl, rfl, rfl, rfl, rfl, rfl, rfl, trivial⟩ ?_
            exact J_51 _ _ hw
      refine aw_sub [(0, vR a0), (1, vI a1), (2, vI a2), (3, vI a3), (4, vI a4), (5, vI a5), (6, vR a6), (7, vR a7), (8, vR a8), (9, vR a9), (10, vR a10), (11, vI x11_12), (12, vI (0 : Int)), (13, vI x13_12), (14, vI x14_12), (15, vI (0 : Int)), (16, vI (0 : Int))] ⟨rfl, rfl, rfl, rfl, rfl, rfl, rfl, rfl, rfl, rfl, rfl, rfl, rfl, rfl, rfl, rfl, rfl, trivial⟩ ?_
      exact L_25 n9 _ _ _ hi9
  refine aw_sub [(0, vR a0), (1, vI a1), (2, vI a2), (3, vI a3), (4, vI a4), (5, vI a5), (6, vR a6), (7, vR a7), (8, vR a8), (9, vR a9), (10, vR a10), (11, vI (0 : Int)), (12, vI (0 : Int)), (13, vI (0 : Int)), (14, vI (0 : Int))] ⟨rfl, rfl, rfl, rfl, rfl, rfl, rfl, rfl, rfl, rfl, rfl, rfl, rfl, rfl, rfl, trivial⟩ ?_
  exact L_12 n9 _ _ _ _ hi9
theorem dL_letters_0 : decode cL_letters 0 = .ok (.iconst 0, 1) := by decide +kernel
theorem dL_letters_1 : decode cL_letters 1 = .ok (.istore 8, 2) := by decide +kernel
theorem dL_letters_3 : decode cL_letters 3 = .ok (.iload 8, 2) := by decide +kernel
theorem dL_letters_5 : decode cL_letters 5 = .ok (.aload_n 3, 1) := by decide +kernel
theorem dL_letters_6 : decode cL_letters 6 = .ok (.iconst 0, 1) := by decide +kernel
theorem dL_letters_7 : decode cL_letters 7 = .ok (.iaload, 1) := by decide +kernel
theorem dL_letters_8 : decode cL_letters 8 = .ok (.if_icmp .ge 309, 3) := by decide +kernel
theorem dL_letters_11 : decode cL_letters 11 = .ok (.aload 5, 2) := by decide +kernel
theorem dL_letters_13 : decode cL_letters 13 = .ok (.iconst 2, 1) := by decide +kernel
theorem dL_letters_14 : decode cL_letters 14 = .ok (.iload 8, 2) := by decide +kernel
theorem dL_letters_16 : decode cL_letters 16 = .ok (.imul, 1) := by decide +kernel
theorem dL_letters_17 : decode cL_letters 17 = .ok (.iaload, 1) := by decide +kernel
theorem dL_letters_18 : decode cL_letters 18 = .ok (.istore 9, 2) := by decide +kernel
theorem dL_letters_20 : decode cL_letters 20 = .ok (.iload 9, 2) := by decide +kernel
theorem dL_letters_22 : decode cL_letters 22 = .ok (.ifCond .ge 7, 3) := by decide +kernel
theorem dL_letters_25 : decode cL_letters 25 = .ok (.iconst 0, 1) := by decide +kernel
theorem dL_letters_26 : decode cL_letters 26 = .ok (.goto 48, 3) := by decide +kernel
theorem dL_letters_29 : decode cL_letters 29 = .ok (.aload_n 1, 1) := by decide +kernel
theorem dL_letters_30 : decode cL_letters 30 = .ok (.iconst 2, 1) := by decide +kernel
theorem dL_letters_31 : decode cL_letters 31 = .ok (.iload 8, 2) := by decide +kernel
theorem dL_letters_33 : decode cL_letters 33 = .ok (.imul, 1) := by decide +kernel
theorem dL_letters_34 : decode cL_letters 34 = .ok (.iaload, 1) := by decide +kernel
theorem dL_letters_35 : decode cL_letters 35 = .ok (.bipush 16, 2) := by decide +kernel
theorem dL_letters_37 : decode cL_letters 37 = .ok (.irem, 1) := by decide +kernel
theorem dL_letters_38 : decode cL_letters 38 = .ok (.aload_n 2, 1) := by decide +kernel
theorem dL_letters_39 : decode cL_letters 39 = .ok (.iconst 2, 1) := by decide +kernel
theorem dL_letters_40 : decode cL_letters 40 = .ok (.iload 9, 2) := by decide +kernel
theorem dL_letters_42 : decode cL_letters 42 = .ok (.imul, 1) := by decide +kernel
theorem dL_letters_43 : decode cL_letters 43 = .ok (.iaload, 1) := by decide +kernel
theorem dL_letters_44 : decode cL_letters 44 = .ok (.bipush 16, 2) := by decide +kernel
theorem dL_letters_46 : decode cL_letters 46 = .ok (.irem, 1) := by decide +kernel
theorem dL_letters_47 : decode cL_letters 47 = .ok (.isub, 1) := by decide +kernel
theorem dL_letters_48 : decode cL_letters 48 = .ok (.invokestatic 8, 3) := by decide +kernel
theorem dL_letters_51 : decode cL_letters 51 = .ok (.aload_n 1, 1) := by decide +kernel
theorem dL_letters_52 : decode cL_letters 52 = .ok (.iconst 2, 1) := by decide +kernel
theorem dL_letters_53 : decode cL_letters 53 = .ok (.iload 8, 2) := by decide +kernel
theorem dL_letters_55 : decode cL_letters 55 = .ok (.imul, 1) := by decide +kernel
theorem dL_letters_56 : decode cL_letters 56 = .ok (.iaload, 1) := by decide +kernel
theorem dL_letters_57 : decode cL_letters 57 = .ok (.bipush 16, 2) := by decide +kernel
theorem dL_letters_59 : decode cL_letters 59 = .ok (.idiv, 1) := by decide +kernel
theorem dL_letters_60 : decode cL_letters 60 = .ok (.aload_n 2, 1) := by decide +kernel
theorem dL_letters_61 : decode cL_letters 61 = .ok (.iconst 2, 1) := by decide +kernel
theorem dL_letters_62 : decode cL_letters 62 = .ok (.iload 9, 2) := by decide +kernel
theorem dL_letters_64 : decode cL_letters 64 = .ok (.imul, 1) := by decide +kernel
theorem dL_letters_65 : decode cL_letters 65 = .ok (.iaload, 1) := by decide +kernel
theorem dL_letters_66 : decode cL_letters 66 = .ok (.bipush 16, 2) := by decide +kernel
theorem dL_letters_68 : decode cL_letters 68 = .ok (.idiv, 1) := by decide +kernel
theorem dL_letters_69 : decode cL_letters 69 = .ok (.isub, 1) := by decide +kernel
theorem dL_letters_70 : decode cL_letters 70 = .ok (.invokestatic 8, 3) := by decide +kernel
theorem dL_letters_73 : decode cL_letters 73 = .ok (.iadd, 1) := by decide +kernel
theorem dL_letters_74 : decode cL_letters 74 = .ok (.istore 10, 2) := by decide +kernel
theorem dL_letters_76 : decode cL_letters 76 = .ok (.aload_n 0, 1) := by decide +kernel
theorem dL_letters_77 : decode cL_letters 77 = .ok (.iconst 0, 1) := by decide +kernel
theorem dL_letters_78 : decode cL_letters 78 = .ok (.iload 8, 2) := by decide +kernel
theorem dL_letters_80 : decode cL_letters 80 = .ok (.iconst 0, 1) := by decide +kernel
theorem dL_letters_81 : decode cL_letters 81 = .ok (.invokevirtual 77, 3) := by decide +kernel
theorem dL_letters_84 : decode cL_letters 84 = .ok (.aload_n 1, 1) := by decide +kernel
theorem dL_letters_85 : decode cL_letters 85 = .ok (.iconst 2, 1) := by decide +kernel
theorem dL_letters_86 : decode cL_letters 86 = .ok (.iload 8, 2) := by decide +kernel
theorem dL_letters_88 : decode cL_letters 88 = .ok (.imul, 1) := by decide +kernel
theorem dL_letters_89 : decode cL_letters 89 = .ok (.iaload, 1) := by decide +kernel
theorem dL_letters_90 : decode cL_letters 90 = .ok (.bipush 16, 2) := by decide +kernel
theorem dL_letters_92 : decode cL_letters 92 = .ok (.idiv, 1) := by decide +kernel
theorem dL_letters_93 : decode cL_letters 93 = .ok (.if_icmp .ne 106, 3) := by decide +kernel
theorem dL_letters_96 : decode cL_letters 96 = .ok (.aload_n 0, 1) := by decide +kernel
theorem dL_letters_97 : decode cL_letters 97 = .ok (.iconst 0, 1) := by decide +kernel
theorem dL_letters_98 : decode cL_letters 98 = .ok (.iload 8, 2) := by decide +kernel
theorem dL_letters_100 : decode cL_letters 100 = .ok (.iconst 1, 1) := by decide +kernel
theorem dL_letters_101 : decode cL_letters 101 = .ok (.invokevirtual 77, 3) := by decide +kernel
theorem dL_letters_104 : decode cL_letters 104 = .ok (.aload_n 1, 1) := by decide +kernel
theorem dL_letters_105 : decode cL_letters 105 = .ok (.iconst 2, 1) := by decide +kernel
theorem dL_letters_106 : decode cL_letters 106 = .ok (.iload 8, 2) := by decide +kernel
theorem dL_letters_108 : decode cL_letters 108 = .ok (.imul, 1) := by decide +kernel
theorem dL_letters_109 : decode cL_letters 109 = .ok (.iaload, 1) := by decide +kernel
theorem dL_letters_110 : decode cL_letters 110 = .ok (.bipush 16, 2) := by decide +kernel
theorem dL_letters_112 : decode cL_letters 112 = .ok (.irem, 1) := by decide +kernel
theorem dL_letters_113 : decode cL_letters 113 = .ok (.if_icmp .ne 86, 3) := by decide +kernel
theorem dL_letters_116 : decode cL_letters 116 = .ok (.aload_n 0, 1) := by decide +kernel
theorem dL_letters_117 : decode cL_letters 117 = .ok (.iconst 0, 1) := by decide +kernel
theorem dL_letters_118 : decode cL_letters 118 = .ok (.iload 8, 2) := by decide +kernel
theorem dL_letters_120 : decode cL_letters 120 = .ok (.iconst 2, 1) := by decide +kernel
theorem dL_letters_121 : decode cL_letters 121 = .ok (.invokevirtual 77, 3) := by decide +kernel
theorem dL_letters_124 : decode cL_letters 124 = .ok (.aload_n 1, 1) := by decide +kernel
theorem dL_letters_125 : decode cL_letters 125 = .ok (.iconst 2, 1) := by decide +kernel
theorem dL_letters_126 : decode cL_letters 126 = .ok (.iload 8, 2) := by decide +kernel
theorem dL_letters_128 : decode cL_letters 128 = .ok (.imul, 1) := by decide +kernel
theorem dL_letters_129 : decode cL_letters 129 = .ok (.iconst 1, 1) := by decide +kernel
theorem dL_letters_130 : decode cL_letters 130 = .ok (.iadd, 1) := by decide +kernel
theorem dL_letters_131 : decode cL_letters 131 = .ok (.iaload, 1) := by decide +kernel
theorem dL_letters_132 : decode cL_letters 132 = .ok (.if_icmp .ne 67, 3) := by decide +kernel
theorem dL_letters_135 : decode cL_letters 135 = .ok (.aload_n 0, 1) := by decide +kernel
theorem dL_letters_136 : decode cL_letters 136 = .ok (.iconst 0, 1) := by decide +kernel
theorem dL_letters_137 : decode cL_letters 137 = .ok (.iload 8, 2) := by decide +kernel
theorem dL_letters_139 : decode cL_letters 139 = .ok (.iconst 3, 1) := by decide +kernel
theorem dL_letters_140 : decode cL_letters 140 = .ok (.invokevirtual 77, 3) := by decide +kernel
theorem dL_letters_143 : decode cL_letters 143 = .ok (.iload 9, 2) := by decide +kernel
theorem dL_letters_145 : decode cL_letters 145 = .ok (.if_icmp .ne 54, 3) := by decide +kernel
theorem dL_letters_148 : decode cL_letters 148 = .ok (.aload_n 0, 1) := by decide +kernel
theorem dL_letters_149 : decode cL_letters 149 = .ok (.iconst 0, 1) := by decide +kernel
theorem dL_letters_150 : decode cL_letters 150 = .ok (.iload 8, 2) := by decide +kernel
theorem dL_letters_152 : decode cL_letters 152 = .ok (.iconst 4, 1) := by decide +kernel
theorem dL_letters_153 : decode cL_letters 153 = .ok (.invokevirtual 77, 3) := by decide +kernel
theorem dL_letters_156 : decode cL_letters 156 = .ok (.aload 5, 2) := by decide +kernel
theorem dL_letters_158 : decode cL_letters 158 = .ok (.iconst 2, 1) := by decide +kernel
theorem dL_letters_159 : decode cL_letters 159 = .ok (.iload 8, 2) := by decide +kernel
theorem dL_letters_161 : decode cL_letters 161 = .ok (.imul, 1) := by decide +kernel
theorem dL_letters_162 : decode cL_letters 162 = .ok (.iconst 1, 1) := by decide +kernel
theorem dL_letters_163 : decode cL_letters 163 = .ok (.iadd, 1) := by decide +kernel
theorem dL_letters_164 : decode cL_letters 164 = .ok (.iaload, 1) := by decide +kernel
theorem dL_letters_165 : decode cL_letters 165 = .ok (.if_icmp .ne 34, 3) := by decide +kernel
theorem dL_letters_168 : decode cL_letters 168 = .ok (.aload_n 0, 1) := by decide +kernel
theorem dL_letters_169 : decode cL_letters 169 = .ok (.iconst 0, 1) := by decide +kernel
theorem dL_letters_170 : decode cL_letters 170 = .ok (.iload 8, 2) := by decide +kernel
theorem dL_letters_172 : decode cL_letters 172 = .ok (.iconst 5, 1) := by decide +kernel
theorem dL_letters_173 : decode cL_letters 173 = .ok (.invokevirtual 77, 3) := by decide +kernel
theorem dL_letters_176 : decode cL_letters 176 = .ok (.iload 9, 2) := by decide +kernel
theorem dL_letters_178 : decode cL_letters 178 = .ok (.ifCond .ge 7, 3) := by decide +kernel
theorem dL_letters_181 : decode cL_letters 181 = .ok (.iconst 0, 1) := by decide +kernel
theorem dL_letters_182 : decode cL_letters 182 = .ok (.goto 14, 3) := by decide +kernel
theorem dL_letters_185 : decode cL_letters 185 = .ok (.iload 8, 2) := by decide +kernel
theorem dL_letters_187 : decode cL_letters 187 = .ok (.iload 9, 2) := by decide +kernel
theorem dL_letters_189 : decode cL_letters 189 = .ok (.aload_n 1, 1) := by decide +kernel
theorem dL_letters_190 : decode cL_letters 190 = .ok (.aload_n 2, 1) := by decide +kernel
theorem dL_letters_191 : decode cL_letters 191 = .ok (.aload 4, 2) := by decide +kernel
theorem dL_letters_193 : decode cL_letters 193 = .ok (.invokestatic 14, 3) := by decide +kernel
theorem dL_letters_196 : decode cL_letters 196 = .ok (.if_icmp .eq 5, 3) := by decide +kernel
theorem dL_letters_199 : decode cL_letters 199 = .ok (.iconst 0, 1) := by decide +kernel
theorem dL_letters_200 : decode cL_letters 200 = .ok (.ireturn, 1) := by decide +kernel
theorem dL_letters_201 : decode cL_letters 201 = .ok (.iload 9, 2) := by decide +kernel
theorem dL_letters_203 : decode cL_letters 203 = .ok (.ifCond .lt 60, 3) := by decide +kernel
theorem dL_letters_206 : decode cL_letters 206 = .ok (.aload_n 0, 1) := by decide +kernel
theorem dL_letters_207 : decode cL_letters 207 = .ok (.iconst 1, 1) := by decide +kernel
theorem dL_letters_208 : decode cL_letters 208 = .ok (.iload 9, 2) := by decide +kernel
theorem dL_letters_210 : decode cL_letters 210 = .ok (.iconst 3, 1) := by decide +kernel
theorem dL_letters_211 : decode cL_letters 211 = .ok (.invokevirtual 77, 3) := by decide +kernel
theorem dL_letters_214 : decode cL_letters 214 = .ok (.iload 8, 2) := by decide +kernel
theorem dL_letters_216 : decode cL_letters 216 = .ok (.if_icmp .ne 45, 3) := by decide +kernel
theorem dL_letters_219 : decode cL_letters 219 = .ok (.aload_n 0, 1) := by decide +kernel
theorem dL_letters_220 : decode cL_letters 220 = .ok (.iconst 1, 1) := by decide +kernel
theorem dL_letters_221 : decode cL_letters 221 = .ok (.iload 9, 2) := by decide +kernel
theorem dL_letters_223 : decode cL_letters 223 = .ok (.iconst 4, 1) := by decide +kernel
theorem dL_letters_224 : decode cL_letters 224 = .ok (.invokevirtual 77, 3) := by decide +kernel
theorem dL_letters_227 : decode cL_letters 227 = .ok (.aload 5, 2) := by decide +kernel
theorem dL_letters_229 : decode cL_letters 229 = .ok (.iconst 2, 1) := by decide +kernel
theorem dL_letters_230 : decode cL_letters 230 = .ok (.iload 8, 2) := by decide +kernel
theorem dL_letters_232 : decode cL_letters 232 = .ok (.imul, 1) := by decide +kernel
theorem dL_letters_233 : decode cL_letters 233 = .ok (.iconst 1, 1) := by decide +kernel
theorem dL_letters_234 : decode cL_letters 234 = .ok (.iadd, 1) := by decide +kernel
theorem dL_letters_235 : decode cL_letters 235 = .ok (.iaload, 1) := by decide +kernel
theorem dL_letters_236 : decode cL_letters 236 = .ok (.if_icmp .ne 25, 3) := by decide +kernel
theorem dL_letters_239 : decode cL_letters 239 = .ok (.aload_n 0, 1) := by decide +kernel
theorem dL_letters_240 : decode cL_letters 240 = .ok (.iconst 1, 1) := by decide +kernel
theorem dL_letters_241 : decode cL_letters 241 = .ok (.iload 9, 2) := by decide +kernel
theorem dL_letters_243 : decode cL_letters 243 = .ok (.iconst 5, 1) := by decide +kernel
theorem dL_letters_244 : decode cL_letters 244 = .ok (.invokevirtual 77, 3) := by decide +kernel
theorem dL_letters_247 : decode cL_letters 247 = .ok (.iload 8, 2) := by decide +kernel
theorem dL_letters_249 : decode cL_letters 249 = .ok (.iload 9, 2) := by decide +kernel
theorem dL_letters_251 : decode cL_letters 251 = .ok (.aload_n 1, 1) := by decide +kernel
theorem dL_letters_252 : decode cL_letters 252 = .ok (.aload_n 2, 1) := by decide +kernel
theorem dL_letters_253 : decode cL_letters 253 = .ok (.aload 4, 2) := by decide +kernel
theorem dL_letters_255 : decode cL_letters 255 = .ok (.invokestatic 14, 3) := by decide +kernel
theorem dL_letters_258 : decode cL_letters 258 = .ok (.if_icmp .eq 5, 3) := by decide +kernel
theorem dL_letters_261 : decode cL_letters 261 = .ok (.iconst 0, 1) := by decide +kernel
theorem dL_letters_262 : decode cL_letters 262 = .ok (.ireturn, 1) := by decide +kernel
theorem dL_letters_263 : decode cL_letters 263 = .ok (.aload_n 0, 1) := by decide +kernel
theorem dL_letters_264 : decode cL_letters 264 = .ok (.iload 8, 2) := by decide +kernel
theorem dL_letters_266 : decode cL_letters 266 = .ok (.iconst 0, 1) := by decide +kernel
theorem dL_letters_267 : decode cL_letters 267 = .ok (.invokevirtual 80, 3) := by decide +kernel
theorem dL_letters_270 : decode cL_letters 270 = .ok (.iload 10, 2) := by decide +kernel
theorem dL_letters_272 : decode cL_letters 272 = .ok (.if_icmp .ne 37, 3) := by decide +kernel
theorem dL_letters_275 : decode cL_letters 275 = .ok (.aload_n 0, 1) := by decide +kernel
theorem dL_letters_276 : decode cL_letters 276 = .ok (.iload 8, 2) := by decide +kernel
theorem dL_letters_278 : decode cL_letters 278 = .ok (.iconst 1, 1) := by decide +kernel
theorem dL_letters_279 : decode cL_letters 279 = .ok (.invokevirtual 80, 3) := by decide +kernel
theorem dL_letters_282 : decode cL_letters 282 = .ok (.aload 6, 2) := by decide +kernel
theorem dL_letters_284 : decode cL_letters 284 = .ok (.iconst 2, 1) := by decide +kernel
theorem dL_letters_285 : decode cL_letters 285 = .ok (.iload 8, 2) := by decide +kernel
theorem dL_letters_287 : decode cL_letters 287 = .ok (.imul, 1) := by decide +kernel
theorem dL_letters_288 : decode cL_letters 288 = .ok (.iconst 1, 1) := by decide +kernel
theorem dL_letters_289 : decode cL_letters 289 = .ok (.iadd, 1) := by decide +kernel
theorem dL_letters_290 : decode cL_letters 290 = .ok (.iaload, 1) := by decide +kernel
theorem dL_letters_291 : decode cL_letters 291 = .ok (.if_icmp .ne 18, 3) := by decide +kernel
theorem dL_letters_294 : decode cL_letters 294 = .ok (.aload_n 0, 1) := by decide +kernel
theorem dL_letters_295 : decode cL_letters 295 = .ok (.iload 8, 2) := by decide +kernel
theorem dL_letters_297 : decode cL_letters 297 = .ok (.iconst 2, 1) := by decide +kernel
theorem dL_letters_298 : decode cL_letters 298 = .ok (.invokevirtual 80, 3) := by decide +kernel
theorem dL_letters_301 : decode cL_letters 301 = .ok (.aload 7, 2) := by decide +kernel
theorem dL_letters_303 : decode cL_letters 303 = .ok (.iload 8, 2) := by decide +kernel
theorem dL_letters_305 : decode cL_letters 305 = .ok (.iaload, 1) := by decide +kernel
theorem dL_letters_306 : decode cL_letters 306 = .ok (.if_icmp .eq 5, 3) := by decide +kernel
theorem dL_letters_309 : decode cL_letters 309 = .ok (.iconst 0, 1) := by decide +kernel
theorem dL_letters_310 : decode cL_letters 310 = .ok (.ireturn, 1) := by decide +kernel
theorem dL_letters_311 : decode cL_letters 311 = .ok (.iinc 8 1, 3) := by decide +kernel
theorem dL_letters_314 : decode cL_letters 314 = .ok (.goto (-311), 3) := by decide +kernel
theorem dL_letters_317 : decode cL_letters 317 = .ok (.iconst 0, 1) := by decide +kernel
theorem dL_letters_318 : decode cL_letters 318 = .ok (.istore 8, 2) := by decide +kernel
theorem dL_letters_320 : decode cL_letters 320 = .ok (.iload 8, 2) := by decide +kernel
theorem dL_letters_322 : decode cL_letters 322 = .ok (.aload_n 3, 1) := by decide +kernel
theorem dL_letters_323 : decode cL_letters 323 = .ok (.iconst 1, 1) := by decide +kernel
theorem dL_letters_324 : decode cL_letters 324 = .ok (.iaload, 1) := by decide +kernel
theorem dL_letters_325 : decode cL_letters 325 = .ok (.if_icmp .ge 118, 3) := by decide +kernel
theorem dL_letters_328 : decode cL_letters 328 = .ok (.aload_n 0, 1) := by decide +kernel
theorem dL_letters_329 : decode cL_letters 329 = .ok (.iconst 1, 1) := by decide +kernel
theorem dL_letters_330 : decode cL_letters 330 = .ok (.iload 8, 2) := by decide +kernel
theorem dL_letters_332 : decode cL_letters 332 = .ok (.iconst 0, 1) := by decide +kernel
theorem dL_letters_333 : decode cL_letters 333 = .ok (.invokevirtual 77, 3) := by decide +kernel
theorem dL_letters_336 : decode cL_letters 336 = .ok (.aload_n 2, 1) := by decide +kernel
theorem dL_letters_337 : decode cL_letters 337 = .ok (.iconst 2, 1) := by decide +kernel
theorem dL_letters_338 : decode cL_letters 338 = .ok (.iload 8, 2) := by decide +kernel
theorem dL_letters_340 : decode cL_letters 340 = .ok (.imul, 1) := by decide +kernel
theorem dL_letters_341 : decode cL_letters 341 = .ok (.iaload, 1) := by decide +kernel
theorem dL_letters_342 : decode cL_letters 342 = .ok (.bipush 16, 2) := by decide +kernel
theorem dL_letters_344 : decode cL_letters 344 = .ok (.idiv, 1) := by decide +kernel
theorem dL_letters_345 : decode cL_letters 345 = .ok (.if_icmp .ne 42, 3) := by decide +kernel
theorem dL_letters_348 : decode cL_letters 348 = .ok (.aload_n 0, 1) := by decide +kernel
theorem dL_letters_349 : decode cL_letters 349 = .ok (.iconst 1, 1) := by decide +kernel
theorem dL_letters_350 : decode cL_letters 350 = .ok (.iload 8, 2) := by decide +kernel
theorem dL_letters_352 : decode cL_letters 352 = .ok (.iconst 1, 1) := by decide +kernel
theorem dL_letters_353 : decode cL_letters 353 = .ok (.invokevirtual 77, 3) := by decide +kernel
theorem dL_letters_356 : decode cL_letters 356 = .ok (.aload_n 2, 1) := by decide +kernel
theorem dL_letters_357 : decode cL_letters 357 = .ok (.iconst 2, 1) := by decide +kernel
theorem dL_letters_358 : decode cL_letters 358 = .ok (.iload 8, 2) := by decide +kernel
theorem dL_letters_360 : decode cL_letters 360 = .ok (.imul, 1) := by decide +kernel
theorem dL_letters_361 : decode cL_letters 361 = .ok (.iaload, 1) := by decide +kernel
theorem dL_letters_362 : decode cL_letters 362 = .ok (.bipush 16, 2) := by decide +kernel
theorem dL_letters_364 : decode cL_letters 364 = .ok (.irem, 1) := by decide +kernel
theorem dL_letters_365 : decode cL_letters 365 = .ok (.if_icmp .ne 22, 3) := by decide +kernel
theorem dL_letters_368 : decode cL_letters 368 = .ok (.aload_n 0, 1) := by decide +kernel
theorem dL_letters_369 : decode cL_letters 369 = .ok (.iconst 1, 1) := by decide +kernel
theorem dL_letters_370 : decode cL_letters 370 = .ok (.iload 8, 2) := by decide +kernel
theorem dL_letters_372 : decode cL_letters 372 = .ok (.iconst 2, 1) := by decide +kernel
theorem dL_letters_373 : decode cL_letters 373 = .ok (.invokevirtual 77, 3) := by decide +kernel
theorem dL_letters_376 : decode cL_letters 376 = .ok (.aload_n 2, 1) := by decide +kernel
theorem dL_letters_377 : decode cL_letters 377 = .ok (.iconst 2, 1) := by decide +kernel
theorem dL_letters_378 : decode cL_letters 378 = .ok (.iload 8, 2) := by decide +kernel
theorem dL_letters_380 : decode cL_letters 380 = .ok (.imul, 1) := by decide +kernel
theorem dL_letters_381 : decode cL_letters 381 = .ok (.iconst 1, 1) := by decide +kernel
theorem dL_letters_382 : decode cL_letters 382 = .ok (.iadd, 1) := by decide +kernel
theorem dL_letters_383 : decode cL_letters 383 = .ok (.iaload, 1) := by decide +kernel
theorem dL_letters_384 : decode cL_letters 384 = .ok (.if_icmp .eq 5, 3) := by decide +kernel
theorem dL_letters_387 : decode cL_letters 387 = .ok (.iconst 0, 1) := by decide +kernel
theorem dL_letters_388 : decode cL_letters 388 = .ok (.ireturn, 1) := by decide +kernel
theorem dL_letters_389 : decode cL_letters 389 = .ok (.iload 8, 2) := by decide +kernel
theorem dL_letters_391 : decode cL_letters 391 = .ok (.aload_n 3, 1) := by decide +kernel
theorem dL_letters_392 : decode cL_letters 392 = .ok (.aload 5, 2) := by decide +kernel
theorem dL_letters_394 : decode cL_letters 394 = .ok (.invokestatic 18, 3) := by decide +kernel
theorem dL_letters_397 : decode cL_letters 397 = .ok (.ifCond .ne 40, 3) := by decide +kernel
theorem dL_letters_400 : decode cL_letters 400 = .ok (.aload_n 0, 1) := by decide +kernel
theorem dL_letters_401 : decode cL_letters 401 = .ok (.iconst 1, 1) := by decide +kernel
theorem dL_letters_402 : decode cL_letters 402 = .ok (.iload 8, 2) := by decide +kernel
theorem dL_letters_404 : decode cL_letters 404 = .ok (.iconst 3, 1) := by decide +kernel
theorem dL_letters_405 : decode cL_letters 405 = .ok (.invokevirtual 77, 3) := by decide +kernel
theorem dL_letters_408 : decode cL_letters 408 = .ok (.iconst (-1), 1) := by decide +kernel
theorem dL_letters_409 : decode cL_letters 409 = .ok (.if_icmp .ne 26, 3) := by decide +kernel
theorem dL_letters_412 : decode cL_letters 412 = .ok (.aload_n 0, 1) := by decide +kernel
theorem dL_letters_413 : decode cL_letters 413 = .ok (.iconst 1, 1) := by decide +kernel
theorem dL_letters_414 : decode cL_letters 414 = .ok (.iload 8, 2) := by decide +kernel
theorem dL_letters_416 : decode cL_letters 416 = .ok (.iconst 4, 1) := by decide +kernel
theorem dL_letters_417 : decode cL_letters 417 = .ok (.invokevirtual 77, 3) := by decide +kernel
theorem dL_letters_420 : decode cL_letters 420 = .ok (.iconst 5, 1) := by decide +kernel
theorem dL_letters_421 : decode cL_letters 421 = .ok (.if_icmp .ne 14, 3) := by decide +kernel
theorem dL_letters_424 : decode cL_letters 424 = .ok (.aload_n 0, 1) := by decide +kernel
theorem dL_letters_425 : decode cL_letters 425 = .ok (.iconst 1, 1) := by decide +kernel
theorem dL_letters_426 : decode cL_letters 426 = .ok (.iload 8, 2) := by decide +kernel
theorem dL_letters_428 : decode cL_letters 428 = .ok (.iconst 5, 1) := by decide +kernel
theorem dL_letters_429 : decode cL_letters 429 = .ok (.invokevirtual 77, 3) := by decide +kernel
theorem dL_letters_432 : decode cL_letters 432 = .ok (.ifCond .eq 5, 3) := by decide +kernel
theorem dL_letters_435 : decode cL_letters 435 = .ok (.iconst 0, 1) := by decide +kernel
theorem dL_letters_436 : decode cL_letters 436 = .ok (.ireturn, 1) := by decide +kernel
theorem dL_letters_437 : decode cL_letters 437 = .ok (.iinc 8 1, 3) := by decide +kernel
theorem dL_letters_440 : decode cL_letters 440 = .ok (.goto (-120), 3) := by decide +kernel
theorem dL_letters_443 : decode cL_letters 443 = .ok (.iconst 1, 1) := by decide +kernel
theorem dL_letters_444 : decode cL_letters 444 = .ok (.ireturn, 1) := by decide +kernel
theorem pd_L_letters : (parseMethodDescriptor yL_letters.desc).map (fun d => d.parameters.length) = some 8 := by decide +kernel
def w_L_letters (zz : Nat → Nat) (a0 : Nat) (a1 : Nat) (a2 : Nat) (a3 : Nat) (a4 : Nat) (a5 : Nat) (a6 : Nat) (a7 : Nat) (h : AH) (Q : Int → AH → Prop) : Prop := ∃ I_3 : Nat → Int → AH → Prop, (∃ n, I_3 n (0 : Int) h) ∧ ∀ (n_3 : Nat) (x8_3 : Int) (h_3 : AH), I_3 n_3 x8_3 h_3 → (okI h_3 a3 (0 : Int) ∧ (((haI h_3 a3 (0 : Int)) ≤ x8_3) → ∃ I_320 : Nat → Int → AH → Prop, (∃ n, I_320 n (0 : Int) h_3) ∧ ∀ (n_320 : Nat) (x8_320 : Int) (h_320 : AH), I_320 n_320 x8_320 h_320 → (okI h_320 a3 (1 : Int) ∧ (((haI h_320 a3 (1 : Int)) ≤ x8_320) → ((1 : Int) = 0 ∨ (1 : Int) = 1) ∧ Q (1 : Int) h_320) ∧ ((¬ ((haI h_320 a3 (1 : Int)) ≤ x8_320)) → okA h_320 a0 6 ∧ w_X6_letter zz a0 (1 : Int) x8_320 (0 : Int) h_320 (fun (r333 : Int) (h333 : AH) => inR ((2 : Int) * x8_320) ∧ okI h333 a2 ((2 : Int) * x8_320) ∧ (0 ≤ (haI h333 a2 ((2 : Int) * x8_320)) ∧ 0 < (16 : Int)) ∧ jn (fun  (h_387 : AH) => ((0 : Int) = 0 ∨ (0 : Int) = 1) ∧ Q (0 : Int) h_387) (fun k_387 : AH → Prop => ((¬ r333 = ((haI h333 a2 ((2 : Int) * x8_320)) / (16 : Int))) → k_387  h333) ∧ ((r333 = ((haI h333 a2 ((2 : Int) * x8_320)) / (16 : Int))) → okA h333 a0 6 ∧ w_X6_letter zz a0 (1 : Int) x8_320 (1 : Int) h333 (fun (r353 : Int) (h353 : AH) => inR ((2 : Int) * x8_320) ∧ okI h353 a2 ((2 : Int) * x8_320) ∧ (0 ≤ (haI h353 a2 ((2 : Int) * x8_320)) ∧ 0 < (16 : Int)) ∧ ((¬ r353 = ((haI h353 a2 ((2 : Int) * x8_320)) % (16 : Int))) → k_387  h353) ∧ ((r353 = ((haI h353 a2 ((2 : Int) * x8_320)) % (16 : Int))) → okA h353 a0 6 ∧ w_X6_letter zz a0 (1 : Int) x8_320 (2 : Int) h353 (fun (r373 : Int) (h373 : AH) => inR ((2 : Int) * x8_320) ∧ inR (((2 : Int) * x8_320) + (1 : Int)) ∧ okI h373 a2 (((2 : Int) * x8_320) + (1 : Int)) ∧ ((r373 = (haI h373 a2 (((2 : Int) * x8_320) + (1 : Int)))) → w_L_taken zz x8_320 a3 a5 h373 (fun (r394 : Int) (h394 : AH) => jn (fun  (h_437 : AH) => inR (x8_320 + 1) ∧ ∀ x8_437 : Int, x8_437 = (x8_320 + 1) → ∃ m, m < n_320 ∧ I_320 m x8_437 h_437) (fun k_437 : AH → Prop => ((¬ r394 = 0) → k_437  h394) ∧ ((r394 = 0) → okA h394 a0 6 ∧ w_X6_letter zz a0 (1 : Int) x8_320 (3 : Int) h394 (fun (r405 : Int) (h405 : AH) => jn (fun  (h_435 : AH) => ((0 : Int) = 0 ∨ (0 : Int) = 1) ∧ Q (0 : Int) h_435) (fun k_435 : AH → Prop => ((¬ r405 = (-1 : Int)) → k_435  h405) ∧ ((r405 = (-1 : Int)) → okA h405 a0 6 ∧ w_X6_letter zz a0 (1 : Int) x8_320 (4 : Int) h405 (fun (r417 : Int) (h417 : AH) => ((¬ r417 = (5 : Int)) → k_435  h417) ∧ ((r417 = (5 : Int)) → okA h417 a0 6 ∧ w_X6_letter zz a0 (1 : Int) x8_320 (5 : Int) h417 (fun (r429 : Int) (h429 : AH) => ((r429 = 0) → k_437  h429) ∧ ((¬ (r429 = 0)) → k_435  h429)) (fun _ _ => False))) (fun _ _ => False)))) (fun _ _ => False))))) ∧ ((¬ (r373 = (haI h373 a2 (((2 : Int) * x8_320) + (1 : Int))))) → k_387  h373)) (fun _ _ => False))) (fun _ _ => False)))) (fun _ _ => False)))) ∧ ((¬ ((haI h_3 a3 (0 : Int)) ≤ x8_3)) → inR ((2 : Int) * x8_3) ∧ okI h_3 a5 ((2 : Int) * x8_3) ∧ ∀ x9_18 : Int, x9_18 = (haI h_3 a5 ((2 : Int) * x8_3)) → jn (fun (t0_74 : Int) (h_74 : AH) => okA h_74 a0 6 ∧ w_X6_letter zz a0 (0 : Int) x8_3 (0 : Int) h_74 (fun (r81 : Int) (h81 : AH) => inR ((2 : Int) * x8_3) ∧ okI h81 a1 ((2 : Int) * x8_3) ∧ (0 ≤ (haI h81 a1 ((2 : Int) * x8_3)) ∧ 0 < (16 : Int)) ∧ jn (fun  (h_199 : AH) => ((0 : Int) = 0 ∨ (0 : Int) = 1) ∧ Q (0 : Int) h_199) (fun k_199 : AH → Prop => ((¬ r81 = ((haI h81 a1 ((2 : Int) * x8_3)) / (16 : Int))) → k_199  h81) ∧ ((r81 = ((haI h81 a1 ((2 : Int) * x8_3)) / (16 : Int))) → okA h81 a0 6 ∧ w_X6_letter zz a0 (0 : Int) x8_3 (1 : Int) h81 (fun (r101 : Int) (h101 : AH) => inR ((2 : Int) * x8_3) ∧ okI h101 a1 ((2 : Int) * x8_3) ∧ (0 ≤ (haI h101 a1 ((2 : Int) * x8_3)) ∧ 0 < (16 : Int)) ∧ ((¬ r101 = ((haI h101 a1 ((2 : Int) * x8_3)) % (16 : Int))) → k_199  h101) ∧ ((r101 = ((haI h101 a1 ((2 : Int) * x8_3)) % (16 : Int))) → okA h101 a0 6 ∧ w_X6_letter zz a0 (0 : Int) x8_3 (2 : Int) h101 (fun (r121 : Int) (h121 : AH) => inR ((2 : Int) * x8_3) ∧ inR (((2 : Int) * x8_3) + (1 : Int)) ∧ okI h121 a1 (((2 : Int) * x8_3) + (1 : Int)) ∧ ((¬ r121 = (haI h121 a1 (((2 : Int) * x8_3) + (1 : Int)))) → k_199  h121) ∧ ((r121 = (haI h121 a1 (((2 : Int) * x8_3) + (1 : Int)))) → okA h121 a0 6 ∧ w_X6_letter zz a0 (0 : Int) x8_3 (3 : Int) h121 (fun (r140 : Int) (h140 : AH) => ((¬ r140 = x9_18) → k_199  h140) ∧ ((r140 = x9_18) → okA h140 a0 6 ∧ w_X6_letter zz a0 (0 : Int) x8_3 (4 : Int) h140 (fun (r153 : Int) (h153 : AH) => inR ((2 : Int) * x8_3) ∧ inR (((2 : Int) * x8_3) + (1 : Int)) ∧ okI h153 a5 (((2 : Int) * x8_3) + (1 : Int)) ∧ ((¬ r153 = (haI h153 a5 (((2 : Int) * x8_3) + (1 : Int)))) → k_199  h153) ∧ ((r153 = (haI h153 a5 (((2 : Int) * x8_3) + (1 : Int)))) → okA h153 a0 6 ∧ w_X6_letter zz a0 (0 : Int) x8_3 (5 : Int) h153 (fun (r173 : Int) (h173 : AH) => jn (fun (t1_196 : Int) (h_196 : AH) => ((r173 = t1_196) → jn (fun  (h_263 : AH) => okA h_263 a0 6 ∧ w_X6_way zz a0 x8_3 (0 : Int) h_263 (fun (r267 : Int) (h267 : AH) => jn (fun  (h_309 : AH) => ((0 : Int) = 0 ∨ (0 : Int) = 1) ∧ Q (0 : Int) h_309) (fun k_309 : AH → Prop => ((¬ r267 = t0_74) → k_309  h267) ∧ ((r267 = t0_74) → okA h267 a0 6 ∧ w_X6_way zz a0 x8_3 (1 : Int) h267 (fun (r279 : Int) (h279 : AH) => inR ((2 : Int) * x8_3) ∧ inR (((2 : Int) * x8_3) + (1 : Int)) ∧ okI h279 a6 (((2 : Int) * x8_3) + (1 : Int)) ∧ ((¬ r279 = (haI h279 a6 (((2 : Int) * x8_3) + (1 : Int)))) → k_309  h279) ∧ ((r279 = (haI h279 a6 (((2 : Int) * x8_3) + (1 : Int)))) → okA h279 a0 6 ∧ w_X6_way zz a0 x8_3 (2 : Int) h279 (fun (r298 : Int) (h298 : AH) => okI h298 a7 x8_3 ∧ ((r298 = (haI h298 a7 x8_3)) → inR (x8_3 + 1) ∧ ∀ x8_311 : Int, x8_311 = (x8_3 + 1) → ∃ m, m < n_3 ∧ I_3 m x8_311 h298) ∧ ((¬ (r298 = (haI h298 a7 x8_3))) → k_309  h298)) (fun _ _ => False))) (fun _ _ => False)))) (fun _ _ => False)) (fun k_263 : AH → Prop => ((x9_18 < 0) → k_263  h_196) ∧ ((¬ (x9_18 < 0)) → okA h_196 a0 6 ∧ w_X6_letter zz a0 (1 : Int) x9_18 (3 : Int) h_196 (fun (r211 : Int) (h211 : AH) => jn (fun  (h_261 : AH) => ((0 : Int) = 0 ∨ (0 : Int) = 1) ∧ Q (0 : Int) h_261) (fun k_261 : AH → Prop => ((¬ r211 = x8_3) → k_261  h211) ∧ ((r211 = x8_3) → okA h211 a0 6 ∧ w_X6_letter zz a0 (1 : Int) x9_18 (4 : Int) h211 (fun (r224 : Int) (h224 : AH) => inR ((2 : Int) * x8_3) ∧ inR (((2 : Int) * x8_3) + (1 : Int)) ∧ okI h224 a5 (((2 : Int) * x8_3) + (1 : Int)) ∧ ((¬ r224 = (haI h224 a5 (((2 : Int) * x8_3) + (1 : Int)))) → k_261  h224) ∧ ((r224 = (haI h224 a5 (((2 : Int) * x8_3) + (1 : Int)))) → okA h224 a0 6 ∧ w_X6_letter zz a0 (1 : Int) x9_18 (5 : Int) h224 (fun (r244 : Int) (h244 : AH) => w_L_far zz x8_3 x9_18 a1 a2 a4 h244 (fun (r255 : Int) (h255 : AH) => ((r244 = r255) → k_263  h255) ∧ ((¬ (r244 = r255)) → k_261  h255))) (fun _ _ => False))) (fun _ _ => False)))) (fun _ _ => False)))) ∧ ((¬ (r173 = t1_196)) → k_199  h_196)) (fun k_196 : Int → AH → Prop => ((0 ≤ x9_18) → w_L_far zz x8_3 x9_18 a1 a2 a4 h173 (fun (r193 : Int) (h193 : AH) => k_196 r193 h193)) ∧ ((¬ (0 ≤ x9_18)) → k_196 (0 : Int) h173))) (fun _ _ => False))) (fun _ _ => False))) (fun _ _ => False))) (fun _ _ => False))) (fun _ _ => False)))) (fun _ _ => False)) (fun k_74 : Int → AH → Prop => ((0 ≤ x9_18) → inR ((2 : Int) * x8_3) ∧ okI h_3 a1 ((2 : Int) * x8_3) ∧ (0 ≤ (haI h_3 a1 ((2 : Int) * x8_3)) ∧ 0 < (16 : Int)) ∧ inR ((2 : Int) * x9_18) ∧ okI h_3 a2 ((2 : Int) * x9_18) ∧ (0 ≤ (haI h_3 a2 ((2 : Int) * x9_18)) ∧ 0 < (16 : Int)) ∧ inR (((haI h_3 a1 ((2 : Int) * x8_3)) % (16 : Int)) - ((haI h_3 a2 ((2 : Int) * x9_18)) % (16 : Int))) ∧ w_L_abs zz (((haI h_3 a1 ((2 : Int) * x8_3)) % (16 : Int)) - ((haI h_3 a2 ((2 : Int) * x9_18)) % (16 : Int))) h_3 (fun (r48 : Int) (h48 : AH) => inR ((2 : Int) * x8_3) ∧ okI h48 a1 ((2 : Int) * x8_3) ∧ (0 ≤ (haI h48 a1 ((2 : Int) * x8_3)) ∧ 0 < (16 : Int)) ∧ inR ((2 : Int) * x9_18) ∧ okI h48 a2 ((2 : Int) * x9_18) ∧ (0 ≤ (haI h48 a2 ((2 : Int) * x9_18)) ∧ 0 < (16 : Int)) ∧ inR (((haI h48 a1 ((2 : Int) * x8_3)) / (16 : Int)) - ((haI h48 a2 ((2 : Int) * x9_18)) / (16 : Int))) ∧ w_L_abs zz (((haI h48 a1 ((2 : Int) * x8_3)) / (16 : Int)) - ((haI h48 a2 ((2 : Int) * x9_18)) / (16 : Int))) h48 (fun (r70 : Int) (h70 : AH) => inR (r48 + r70) ∧ k_74 (r48 + r70) h70))) ∧ ((¬ (0 ≤ x9_18)) → k_74 (0 : Int) h_3))))
set_option maxRecDepth 100000 in
set_option maxHeartbeats 4000000 in
theorem met_L_letters (G : GG) (l : Launch) : ∀ (As : List Value) (a0 : Nat) (a1 : Nat) (a2 : Nat) (a3 : Nat) (a4 : Nat) (a5 : Nat) (a6 : Nat) (a7 : Nat) (h : AH) (Q : Int → AH → Prop), As.map ab = List.map some ([vR a0, vR a1, vR a2, vR a3, vR a4, vR a5, vR a6, vR a7] : List AV) → w_L_letters G.2.2 a0 a1 a2 a3 a4 a5 a6 a7 h Q → Met l yL_letters (.code yL_letters cL_letters 11 (some .boolean) :: xTb) ({ frames := 7, cells := 0, slots := 0, locals := 159 } : Room) (PcA G As h) (QG G (oI Q)) 0 0 (frA G) := by
  intro As a0 a1 a2 a3 a4 a5 a6 a7 h Q hA hw
  refine met_of hA (by decide) (Nat.le_of_ble_eq_true rfl) (fun p e s m args below meth c C hml hr hnm => ?_)
  unfold w_L_letters at hw
  refine aw_iconst (pc := 0) C dL_letters_0 (i := (0 : Int)) (by decide) ?_
  refine aw_istore (pc := 1) C dL_letters_1 (by rw [hml]; decide) ?_
  obtain ⟨I_3, ⟨n9, hi9⟩, hst9⟩ := hw
  have L_3 : ∀ (n_3 : Nat) (x8_3 : Int) (h_3 : AH), I_3 n_3 x8_3 h_3 → AW G p l e ({ frames := 7, cells := 0, slots := 0, locals := 159 } : Room) s m args below meth c 0 0 (MQ below (QG G (oI Q)) args s 0 0 (frA G)) 3 (eOf [(0, vR a0), (1, vR a1), (2, vR a2), (3, vR a3), (4, vR a4), (5, vR a5), (6, vR a6), (7, vR a7), (8, vI x8_3)]) [] h_3 := by
    intro n_3
    induction n_3 using Nat.strongRecOn with
    | _ n_3 ih_3 =>
    intro x8_3 h_3 hi9
    have hw := hst9 n_3 x8_3 h_3 hi9
    refine aw_iload (pc := 3) C dL_letters_3 rfl ?_
    refine aw_aload_n (pc := 5) C dL_letters_5 rfl rfl ?_
    refine aw_iconst (pc := 6) C dL_letters_6 (i := (0 : Int)) (by decide) ?_
    obtain ⟨⟨k9, hp9⟩, hw⟩ := hw
    refine aw_iald (pc := 7) C dL_letters_7 hp9 ?_
    refine aw_icmp_ge (pc := 8) (tgt := 317) C dL_letters_8 (by decide) (fun hc9 => ?_) (fun hc9 => ?_)
    · have hw := hw.1 hc9
      refine aw_iconst (pc := 317) C dL_letters_317 (i := (0 : Int)) (by decide) ?_
      refine aw_istore (pc := 318) C dL_letters_318 (by rw [hml]; decide) ?_
      obtain ⟨I_320, ⟨n9, hi9⟩, hst9⟩ := hw
      have L_320 : ∀ (n_320 : Nat) (x8_320 : Int) (h_320 : AH), I_320 n_320 x8_320 h_320 → AW G p l e ({ frames := 7, cells := 0, slots := 0, locals := 159 } : Room) s m args below meth c 0 0 (MQ below (QG G (oI Q)) args s 0 0 (frA G)) 320 (eOf [(0, vR a0), (2, vR a2), (3, vR a3), (5, vR a5), (8, vI x8_320)]) [] h_320 := by
        intro n_320
        induction n_320 using Nat.strongRecOn with
        | _ n_320 ih_320 =>
        intro x8_320 h_320 hi9
        have hw := hst9 n_320 x8_320 h_320 hi9
        refine aw_iload (pc := 320) C dL_letters_320 rfl ?_
        refine aw_aload_n (pc := 322) C dL_letters_322 rfl rfl ?_
        refine aw_iconst (pc := 323) C dL_letters_323 (i := (1 : Int)) (by decide) ?_
        obtain ⟨⟨k9, hp9⟩, hw⟩ := hw
        refine aw_iald (pc := 324) C dL_letters_324 hp9 ?_
        refine aw_icmp_ge (pc := 325) (tgt := 443) C dL_letters_325 (by decide) (fun hc9 => ?_) (fun hc9 => ?_)
        · have hw := hw.1 hc9
          refine aw_iconst (pc := 443) C dL_letters_443 (i := (1 : Int)) (by decide) ?_
          obtain ⟨hp9, hw⟩ := hw
          exact aw_zret (pc := 444) C hr dL_letters_444 ⟨Nat.le_of_ble_eq_true rfl, Nat.le_of_ble_eq_true rfl⟩ hp9 ⟨_, rfl, hw⟩
        · have hw := hw.2 hc9
          refine aw_aload_n (pc := 328) C dL_letters_328 rfl rfl ?_
          refine aw_iconst (pc := 329) C dL_letters_329 (i := (1 : Int)) (by decide) ?_
          refine aw_iload (pc := 330) C dL_letters_330 rfl ?_
          refine aw_iconst (pc := 332) C dL_letters_332 (i := (0 : Int)) (by decide) ?_
          obtain ⟨hp9, hw⟩ := hw
          refine aw_callV (pc := 333) (as := [vI (1 : Int), vI x8_320, vI (0 : Int)]) C ci6 (fun As hA => met_X6_letter G l As a0 (1 : Int) x8_320 (0 : Int) _ _ hA hw) tw600 tw601 tw602 tw1 tw603 ⟨rfl, rfl⟩ ⟨rfl, by decide, by decide, pd_X6_letter⟩ ⟨Nat.le_of_ble_eq_true rfl, Nat.le_of_ble_eq_true rfl⟩ ⟨(Nat.le_of_ble_eq_true rfl), (Nat.le_of_ble_eq_true rfl)⟩ (Nat.le_of_ble_eq_true rfl) dL_letters_333 rfl hp9 (fun v9 h333 hq9 => ?_)
          obtain ⟨r333, rfl, hw⟩ := hq9
          refine aw_aload_n (pc := 336) C dL_letters_336 rfl rfl ?_
          refine aw_iconst (pc := 337) C dL_letters_337 (i := (2 : Int)) (by decide) ?_
          refine aw_iload (pc := 338) C dL_letters_338 rfl ?_
          obtain ⟨hp9, hw⟩ := hw
          refine aw_imul (pc := 340) C dL_letters_340 hp9 ?_
          obtain ⟨⟨k9, hp9⟩, hw⟩ := hw
          refine aw_iald (pc := 341) C dL_letters_341 hp9 ?_
          refine aw_bipush (pc := 342) C dL_letters_342 (i := (16 : Int)) (by decide) ?_
          obtain ⟨hp9, hw⟩ := hw
          refine aw_idiv (pc := 344) C dL_letters_344 hp9 ?_
          obtain ⟨k_387, hk_387, hw⟩ := jn_out hw
          have J_387 : ∀  (h_387 : AH), k_387  h_387 → AW G p l e ({ frames := 7, cells := 0, slots := 0, locals := 159 } : Room) s m args below meth c 0 0 (MQ below (QG G (oI Q)) args s 0 0 (frA G)) 387 (eOf []) [] h_387 := by
            intro  h_387 hw
            rw [hk_387] at hw
            refine aw_iconst (pc := 387) C dL_letters_387 (i := (0 : Int)) (by decide) ?_
            obtain ⟨hp9, hw⟩ := hw
            exact aw_zret (pc := 388) C hr dL_letters_388 ⟨Nat.le_of_ble_eq_true rfl, Nat.le_of_ble_eq_true rfl⟩ hp9 ⟨_, rfl, hw⟩
          refine aw_icmp_ne (pc := 345) (tgt := 387) C dL_letters_345 (by decide) (fun hc9 => ?_) (fun hc9 => ?_)
          · have hw := hw.1 hc9
            refine aw_sub [] trivial ?_
            exact J_387  _ hw
          · have hw := hw.2 hc9
            refine aw_aload_n (pc := 348) C dL_letters_348 rfl rfl ?_
            refine aw_iconst (pc := 349) C dL_letters_349 (i := (1 : Int)) (by decide) ?_
            refine aw_iload (pc := 350) C dL_letters_350 rfl ?_
            refine aw_iconst (pc := 352) C dL_letters_352 (i := (1 : Int)) (by decide) ?_
            obtain ⟨hp9, hw⟩ := hw
            refine aw_callV (pc := 353) (as := [vI (1 : Int), vI x8_320, vI (1 : Int)]) C ci6 (fun As hA => met_X6_letter G l As a0 (1 : Int) x8_320 (1 : Int) _ _ hA hw) tw600 tw601 tw602 tw1 tw603 ⟨rfl, rfl⟩ ⟨rfl, by decide, by decide, pd_X6_letter⟩ ⟨Nat.le_of_ble_eq_true rfl, Nat.le_of_ble_eq_true rfl⟩ ⟨(Nat.le_of_ble_eq_true rfl), (Nat.le_of_ble_eq_true rfl)⟩ (Nat.le_of_ble_eq_true rfl) dL_letters_353 rfl hp9 (fun v9 h353 hq9 => ?_)
            obtain ⟨r353, rfl, hw⟩ := hq9
            refine aw_aload_n (pc := 356) C dL_letters_356 rfl rfl ?_
            refine aw_iconst (pc := 357) C dL_letters_357 (i := (2 : Int)) (by decide) ?_
            refine aw_iload (pc := 358) C dL_letters_358 rfl ?_
            obtain ⟨hp9, hw⟩ := hw
            refine aw_imul (pc := 360) C dL_letters_360 hp9 ?_
            obtain ⟨⟨k9, hp9⟩, hw⟩ := hw
            refine aw_iald (pc := 361) C dL_letters_361 hp9 ?_
            refine aw_bipush (pc := 362) C dL_letters_362 (i := (16 : Int)) (by decide) ?_
            obtain ⟨hp9, hw⟩ := hw
            refine aw_irem (pc := 364) C dL_letters_364 hp9 ?_
            refine aw_icmp_ne (pc := 365) (tgt := 387) C dL_letters_365 (by decide) (fun hc9 => ?_) (fun hc9 => ?_)
            · have hw := hw.1 hc9
              refine aw_sub [] trivial ?_
              exact J_387  _ hw
            · have hw := hw.2 hc9
              refine aw_aload_n (pc := 368) C dL_letters_368 rfl rfl ?_
              refine aw_iconst (pc := 369) C dL_letters_369 (i := (1 : Int)) (by decide) ?_
              refine aw_iload (pc := 370) C dL_letters_370 rfl ?_
              refine aw_iconst (pc := 372) C dL_letters_372 (i := (2 : Int)) (by decide) ?_
              obtain ⟨hp9, hw⟩ := hw
              refine aw_callV (pc := 373) (as := [vI (1 : Int), vI x8_320, vI (2 : Int)]) C ci6 (fun As hA => met_X6_letter G l As a0 (1 : Int) x8_320 (2 : Int) _ _ hA hw) tw600 tw601 tw602 tw1 tw603 ⟨rfl, rfl⟩ ⟨rfl, by decide, by decide, pd_X6_letter⟩ ⟨Nat.le_of_ble_eq_true rfl, Nat.le_of_ble_eq_true rfl⟩ ⟨(Nat.le_of_ble_eq_true rfl), (Nat.le_of_ble_eq_true rfl)⟩ (Nat.le_of_ble_eq_true rfl) dL_letters_373 rfl hp9 (fun v9 h373 hq9 => ?_)
              obtain ⟨r373, rfl, hw⟩ := hq9
              refine aw_aload_n (pc := 376) C dL_letters_376 rfl rfl ?_
              refine aw_iconst (pc := 377) C dL_letters_377 (i := (2 : Int)) (by decide) ?_
              refine aw_iload (pc := 378) C dL_letters_378 rfl ?_
              obtain ⟨hp9, hw⟩ := hw
              refine aw_imul (pc := 380) C dL_letters_380 hp9 ?_
              refine aw_iconst (pc := 381) C dL_letters_381 (i := (1 : Int)) (by decide) ?_
              obtain ⟨hp9, hw⟩ := hw
              refine aw_iadd (pc := 382) C dL_letters_382 hp9 ?_
              obtain ⟨⟨k9, hp9⟩, hw⟩ := hw
              refine aw_iald (pc := 383) C dL_letters_383 hp9 ?_
              refine aw_icmp_eq (pc := 384) (tgt := 389) C dL_letters_384 (by decide) (fun hc9 => ?_) (fun hc9 => ?_)
              · have hw := hw.1 hc9
                refine aw_iload (pc := 389) C dL_letters_389 rfl ?_
                refine aw_aload_n (pc := 391) C dL_letters_391 rfl rfl ?_
                refine aw_aload (pc := 392) C dL_letters_392 rfl ?_
                refine aw_callS (pc := 394) (as := [vI x8_320, vR a3, vR a5]) C (fun As hA => met_L_taken G l As x8_320 a3 a5 _ _ hA hw) tw468 tw469 tw0 tw470 ⟨rfl, rfl⟩ ⟨by decide, by decide, pd_L_taken⟩ ⟨Nat.le_of_ble_eq_true rfl, Nat.le_of_ble_eq_true rfl⟩ ⟨(Nat.le_of_ble_eq_true rfl), (Nat.le_of_ble_eq_true rfl)⟩ (Nat.le_of_ble_eq_true rfl) dL_letters_394 rfl (fun v9 h394 hq9 => ?_)
                obtain ⟨r394, rfl, hw⟩ := hq9
                obtain ⟨k_437, hk_437, hw⟩ := jn_out hw
                have J_437 : ∀  (h_437 : AH), k_437  h_437 → AW G p l e ({ frames := 7, cells := 0, slots := 0, locals := 159 } : Room) s m args below meth c 0 0 (MQ below (QG G (oI Q)) args s 0 0 (frA G)) 437 (eOf [(0, vR a0), (2, vR a2), (3, vR a3), (5, vR a5), (8, vI x8_320)]) [] h_437 := by
                  intro  h_437 hw
                  rw [hk_437] at hw
                  obtain ⟨hp9, hw⟩ := hw
                  refine aw_iincN (pc := 437) C dL_letters_437 (k := 1) (by decide) rfl (by rw [hml]; decide) hp9 (fun x8_437 e9 => ?_)
                  have hw := hw x8_437 e9
                  refine aw_goto (pc := 440) (tgt := 320) C dL_letters_440 (by decide) ?_
                  obtain ⟨m9, hm9, hw⟩ := hw
                  refine aw_sub [(0, vR a0), (2, vR a2), (3, vR a3), (5, vR a5), (8, vI x8_437)] ⟨rfl, rfl, rfl, rfl, rfl, trivial⟩ ?_
                  exact ih_320 m9 hm9 _ _ hw
                refine aw_if_ne (pc := 397) (tgt := 437) C dL_letters_397 (by decide) (fun hc9 => ?_) (fun hc9 => ?_)
                · have hw := hw.1 hc9
                  refine aw_sub [(0, vR a0), (2, vR a2), (3, vR a3), (5, vR a5), (8, vI x8_320)] ⟨rfl, rfl, rfl, rfl, rfl, trivial⟩ ?_
                  exact J_437  _ hw
                · have hw := hw.2 hc9
                  refine aw_aload_n (pc := 400) C dL_letters_400 rfl rfl ?_
                  refine aw_iconst (pc := 401) C dL_letters_401 (i := (1 : Int)) (by decide) ?_
                  refine aw_iload (pc := 402) C dL_letters_402 rfl ?_
                  refine aw_iconst (pc := 404) C dL_letters_404 (i := (3 : Int)) (by decide) ?_
                  obtain ⟨hp9, hw⟩ := hw
                  refine aw_callV (pc := 405) (as := [vI (1 : Int), vI x8_320, vI (3 : Int)]) C ci6 (fun As hA => met_X6_letter G l As a0 (1 : Int) x8_320 (3 : Int) _ _ hA hw) tw600 tw601 tw602 tw1 tw603 ⟨rfl, rfl⟩ ⟨rfl, by decide, by decide, pd_X6_letter⟩ ⟨Nat.le_of_ble_eq_true rfl, Nat.le_of_ble_eq_true rfl⟩ ⟨(Nat.le_of_ble_eq_true rfl), (Nat.le_of_ble_eq_true rfl)⟩ (Nat.le_of_ble_eq_true rfl) dL_letters_405 rfl hp9 (fun v9 h405 hq9 => ?_)
                  obtain ⟨r405, rfl, hw⟩ := hq9
                  refine aw_iconst (pc := 408) C dL_letters_408 (i := (-1 : Int)) (by decide) ?_
                  obtain ⟨k_435, hk_435, hw⟩ := jn_out hw
                  have J_435 : ∀  (h_435 : AH), k_435  h_435 → AW G p l e ({ frames := 7, cells := 0, slots := 0, locals := 159 } : Room) s m args below meth c 0 0 (MQ below (QG G (oI Q)) args s 0 0 (frA G)) 435 (eOf []) [] h_435 := by
                    intro  h_435 hw
                    rw [hk_435] at hw
                    refine aw_iconst (pc := 435) C dL_letters_435 (i := (0 : Int)) (by decide) ?_
                    obtain ⟨hp9, hw⟩ := hw
                    exact aw_zret (pc := 436) C hr dL_letters_436 ⟨Nat.le_of_ble_eq_true rfl, Nat.le_of_ble_eq_true rfl⟩ hp9 ⟨_, rfl, hw⟩
                  refine aw_icmp_ne (pc := 409) (tgt := 435) C dL_letters_409 (by decide) (fun hc9 => ?_) (fun hc9 => ?_)
                  · have hw := hw.1 hc9
                    refine aw_sub [] trivial ?_
                    exact J_435  _ hw
                  · have hw := hw.2 hc9
                    refine aw_aload_n (pc := 412) C dL_letters_412 rfl rfl ?_
                    refine aw_iconst (pc := 413) C dL_letters_413 (i := (1 : Int)) (by decide) ?_
                    refine aw_iload (pc := 414) C dL_letters_414 rfl ?_
                    refine aw_iconst (pc := 416) C dL_letters_416 (i := (4 : Int)) (by decide) ?_
                    obtain ⟨hp9, hw⟩ := hw
                    refine aw_callV (pc := 417) (as := [vI (1 : Int), vI x8_320, vI (4 : Int)]) C ci6 (fun As hA => met_X6_letter G l As a0 (1 : Int) x8_320 (4 : Int) _ _ hA hw) tw600 tw601 tw602 tw1 tw603 ⟨rfl, rfl⟩ ⟨rfl, by decide, by decide, pd_X6_letter⟩ ⟨Nat.le_of_ble_eq_true rfl, Nat.le_of_ble_eq_true rfl⟩ ⟨(Nat.le_of_ble_eq_true rfl), (Nat.le_of_ble_eq_true rfl)⟩ (Nat.le_of_ble_eq_true rfl) dL_letters_417 rfl hp9 (fun v9 h417 hq9 => ?_)
                    obtain ⟨r417, rfl, hw⟩ := hq9
                    refine aw_iconst (pc := 420) C dL_letters_420 (i := (5 : Int)) (by decide) ?_
                    refine aw_icmp_ne (pc := 421) (tgt := 435) C dL_letters_421 (by decide) (fun hc9 => ?_) (fun hc9 => ?_)
                    · have hw := hw.1 hc9
                      refine aw_sub [] trivial ?_
                      exact J_435  _ hw
                    · have hw := hw.2 hc9
                      refine aw_aload_n (pc := 424) C dL_letters_424 rfl rfl ?_
                      refine aw_iconst (pc := 425) C dL_letters_425 (i := (1 : Int)) (by decide) ?_
                      refine aw_iload (pc := 426) C dL_letters_426 rfl ?_
                      refine aw_iconst (pc := 428) C dL_letters_428 (i := (5 : Int)) (by decide) ?_
                      obtain ⟨hp9, hw⟩ := hw
                      refine aw_callV (pc := 429) (as := [vI (1 : Int), vI x8_320, vI (5 : Int)]) C ci6 (fun As hA => met_X6_letter G l As a0 (1 : Int) x8_320 (5 : Int) _ _ hA hw) tw600 tw601 tw602 tw1 tw603 ⟨rfl, rfl⟩ ⟨rfl, by decide, by decide, pd_X6_letter⟩ ⟨Nat.le_of_ble_eq_true rfl, Nat.le_of_ble_eq_true rfl⟩ ⟨(Nat.le_of_ble_eq_true rfl), (Nat.le_of_ble_eq_true rfl)⟩ (Nat.le_of_ble_eq_true rfl) dL_letters_429 rfl hp9 (fun v9 h429 hq9 => ?_)
                      obtain ⟨r429, rfl, hw⟩ := hq9
                      refine aw_if_eq (pc := 432) (tgt := 437) C dL_letters_432 (by decide) (fun hc9 => ?_) (fun hc9 => ?_)
                      · have hw := hw.1 hc9
                        refine aw_sub [(0, vR a0), (2, vR a2), (3, vR a3), (5, vR a5), (8, vI x8_320)] ⟨rfl, rfl, rfl, rfl, rfl, trivial⟩ ?_
                        exact J_437  _ hw
                      · have hw := hw.2 hc9
                        refine aw_sub [] trivial ?_
                        exact J_435  _ hw
              · have hw := hw.2 hc9
                refine aw_sub [] trivial ?_
                exact J_387  _ hw
      refine aw_sub [(0, vR a0), (2, vR a2), (3, vR a3), (5, vR a5), (8, vI (0 : Int))] ⟨rfl, rfl, rfl, rfl, rfl, trivial⟩ ?_
      exact L_320 n9 _ _ hi9
    · have hw := hw.2 hc9
      refine aw_aload (pc := 11) C dL_letters_11 rfl ?_
      refine aw_iconst (pc := 13) C dL_letters_13 (i := (2 : Int)) (by decide) ?_
      refine aw_iload (pc := 14) C dL_letters_14 rfl ?_
      obtain ⟨hp9, hw⟩ := hw
      refine aw_imul (pc := 16) C dL_letters_16 hp9 ?_
      obtain ⟨⟨k9, hp9⟩, hw⟩ := hw
      refine aw_iald (pc := 17) C dL_letters_17 hp9 ?_
      refine aw_nmI (fun x9_18 e9 => ?_)
      have hw := hw x9_18 e9
      refine aw_istore (pc := 18) C dL_letters_18 (by rw [hml]; decide) ?_
      refine aw_iload (pc := 20) C dL_letters_20 rfl ?_
      obtain ⟨k_74, hk_74, hw⟩ := jn_out hw
      have J_74 : ∀ (t0_74 : Int) (h_74 : AH), k_74 t0_74 h_74 → AW G p l e ({ frames := 7, cells := 0, slots := 0, locals := 159 } : Room) s m args below meth c 0 0 (MQ below (QG G (oI Q)) args s 0 0 (frA G)) 74 (eOf [(0, vR a0), (1, vR a1), (2, vR a2), (3, vR a3), (4, vR a4), (5, vR a5), (6, vR a6), (7, vR a7), (8, vI x8_3), (9, vI x9_18)]) [vI t0_74] h_74 := by
        intro t0_74 h_74 hw
        rw [hk_74] at hw
        refine aw_istore (pc := 74) C dL_letters_74 (by rw [hml]; decide) ?_
        refine aw_aload_n (pc := 76) C dL_letters_76 rfl rfl ?_
        refine aw_iconst (pc := 77) C dL_letters_77 (i := (0 : Int)) (by decide) ?_
        refine aw_iload (pc := 78) C dL_letters_78 rfl ?_
        refine aw_iconst (pc := 80) C dL_letters_80 (i := (0 : Int)) (by decide) ?_
        obtain ⟨hp9, hw⟩ := hw
        refine aw_callV (pc := 81) (as := [vI (0 : Int), vI x8_3, vI (0 : Int)]) C ci6 (fun As hA => met_X6_letter G l As a0 (0 : Int) x8_3 (0 : Int) _ _ hA hw) tw600 tw601 tw602 tw1 tw603 ⟨rfl, rfl⟩ ⟨rfl, by decide, by decide, pd_X6_letter⟩ ⟨Nat.le_of_ble_eq_true rfl, Nat.le_of_ble_eq_true rfl⟩ ⟨(Nat.le_of_ble_eq_true rfl), (Nat.le_of_ble_eq_true rfl)⟩ (Nat.le_of_ble_eq_true rfl) dL_letters_81 rfl hp9 (fun v9 h81 hq9 => ?_)
        obtain ⟨r81, rfl, hw⟩ := hq9
        refine aw_aload_n (pc := 84) C dL_letters_84 rfl rfl ?_
        refine aw_iconst (pc := 85) C dL_letters_85 (i := (2 : Int)) (by decide) ?_
        refine aw_iload (pc := 86) C dL_letters_86 rfl ?_
        obtain ⟨hp9, hw⟩ := hw
        refine aw_imul (pc := 88) C dL_letters_88 hp9 ?_
        obtain ⟨⟨k9, hp9⟩, hw⟩ := hw
        refine aw_iald (pc := 89) C dL_letters_89 hp9 ?_
        refine aw_bipush (pc := 90) C dL_letters_90 (i := (16 : Int)) (by decide) ?_
        obtain ⟨hp9, hw⟩ := hw
        refine aw_idiv (pc := 92) C dL_letters_92 hp9 ?_
        obtain ⟨k_199, hk_199, hw⟩ := jn_out hw
        have J_199 : ∀  (h_199 : AH), k_199  h_199 → AW G p l e ({ frames := 7, cells := 0, slots := 0, locals := 159 } : Room) s m args below meth c 0 0 (MQ below (QG G (oI Q)) args s 0 0 (frA G)) 199 (eOf []) [] h_199 := by
          intro  h_199 hw
          rw [hk_199] at hw
          refine aw_iconst (pc := 199) C dL_letters_199 (i := (0 : Int)) (by decide) ?_
          obtain ⟨hp9, hw⟩ := hw
          exact aw_zret (pc := 200) C hr dL_letters_200 ⟨Nat.le_of_ble_eq_true rfl, Nat.le_of_ble_eq_true rfl⟩ hp9 ⟨_, rfl, hw⟩
        refine aw_icmp_ne (pc := 93) (tgt := 199) C dL_letters_93 (by decide) (fun hc9 => ?_) (fun hc9 => ?_)
        · have hw := hw.1 hc9
          refine aw_sub [] trivial ?_
          exact J_199  _ hw
        · have hw := hw.2 hc9
          refine aw_aload_n (pc := 96) C dL_letters_96 rfl rfl ?_
          refine aw_iconst (pc := 97) C dL_letters_97 (i := (0 : Int)) (by decide) ?_
          refine aw_iload (pc := 98) C dL_letters_98 rfl ?_
          refine aw_iconst (pc := 100) C dL_letters_100 (i := (1 : Int)) (by decide) ?_
          obtain ⟨hp9, hw⟩ := hw
          refine aw_callV (pc := 101) (as := [vI (0 : Int), vI x8_3, vI (1 : Int)]) C ci6 (fun As hA => met_X6_letter G l As a0 (0 : Int) x8_3 (1 : Int) _ _ hA hw) tw600 tw601 tw602 tw1 tw603 ⟨rfl, rfl⟩ ⟨rfl, by decide, by decide, pd_X6_letter⟩ ⟨Nat.le_of_ble_eq_true rfl, Nat.le_of_ble_eq_true rfl⟩ ⟨(Nat.le_of_ble_eq_true rfl), (Nat.le_of_ble_eq_true rfl)⟩ (Nat.le_of_ble_eq_true rfl) dL_letters_101 rfl hp9 (fun v9 h101 hq9 => ?_)
          obtain ⟨r101, rfl, hw⟩ := hq9
          refine aw_aload_n (pc := 104) C dL_letters_104 rfl rfl ?_
          refine aw_iconst (pc := 105) C dL_letters_105 (i := (2 : Int)) (by decide) ?_
          refine aw_iload (pc := 106) C dL_letters_106 rfl ?_
          obtain ⟨hp9, hw⟩ := hw
          refine aw_imul (pc := 108) C dL_letters_108 hp9 ?_
          obtain ⟨⟨k9, hp9⟩, hw⟩ := hw
          refine aw_iald (pc := 109) C dL_letters_109 hp9 ?_
          refine aw_bipush (pc := 110) C dL_letters_110 (i := (16 : Int)) (by decide) ?_
          obtain ⟨hp9, hw⟩ := hw
          refine aw_irem (pc := 112) C dL_letters_112 hp9 ?_
          refine aw_icmp_ne (pc := 113) (tgt := 199) C dL_letters_113 (by decide) (fun hc9 => ?_) (fun hc9 => ?_)
          · have hw := hw.1 hc9
            refine aw_sub [] trivial ?_
            exact J_199  _ hw
          · have hw := hw.2 hc9
            refine aw_aload_n (pc := 116) C dL_letters_116 rfl rfl ?_
            refine aw_iconst (pc := 117) C dL_letters_117 (i := (0 : Int)) (by decide) ?_
            refine aw_iload (pc := 118) C dL_letters_118 rfl ?_
            refine aw_iconst (pc := 120) C dL_letters_120 (i := (2 : Int)) (by decide) ?_
            obtain ⟨hp9, hw⟩ := hw
            refine aw_callV (pc := 121) (as := [vI (0 : Int), vI x8_3, vI (2 : Int)]) C ci6 (fun As hA => met_X6_letter G l As a0 (0 : Int) x8_3 (2 : Int) _ _ hA hw) tw600 tw601 tw602 tw1 tw603 ⟨rfl, rfl⟩ ⟨rfl, by decide, by decide, pd_X6_letter⟩ ⟨Nat.le_of_ble_eq_true rfl, Nat.le_of_ble_eq_true rfl⟩ ⟨(Nat.le_of_ble_eq_true rfl), (Nat.le_of_ble_eq_true rfl)⟩ (Nat.le_of_ble_eq_true rfl) dL_letters_121 rfl hp9 (fun v9 h121 hq9 => ?_)
            obtain ⟨r121, rfl, hw⟩ := hq9
            refine aw_aload_n (pc := 124) C dL_letters_124 rfl rfl ?_
            refine aw_iconst (pc := 125) C dL_letters_125 (i := (2 : Int)) (by decide) ?_
            refine aw_iload (pc := 126) C dL_letters_126 rfl ?_
            obtain ⟨hp9, hw⟩ := hw
            refine aw_imul (pc := 128) C dL_letters_128 hp9 ?_
            refine aw_iconst (pc := 129) C dL_letters_129 (i := (1 : Int)) (by decide) ?_
            obtain ⟨hp9, hw⟩ := hw
            refine aw_iadd (pc := 130) C dL_letters_130 hp9 ?_
            obtain ⟨⟨k9, hp9⟩, hw⟩ := hw
            refine aw_iald (pc := 131) C dL_letters_131 hp9 ?_
            refine aw_icmp_ne (pc := 132) (tgt := 199) C dL_letters_132 (by decide) (fun hc9 => ?_) (fun hc9 => ?_)
            · have hw := hw.1 hc9
              refine aw_sub [] trivial ?_
              exact J_199  _ hw
            · have hw := hw.2 hc9
              refine aw_aload_n (pc := 135) C dL_letters_135 rfl rfl ?_
              refine aw_iconst (pc := 136) C dL_letters_136 (i := (0 : Int)) (by decide) ?_
              refine aw_iload (pc := 137) C dL_letters_137 rfl ?_
              refine aw_iconst (pc := 139) C dL_letters_139 (i := (3 : Int)) (by decide) ?_
              obtain ⟨hp9, hw⟩ := hw
              refine aw_callV (pc := 140) (as := [vI (0 : Int), vI x8_3, vI (3 : Int)]) C ci6 (fun As hA => met_X6_letter G l As a0 (0 : Int) x8_3 (3 : Int) _ _ hA hw) tw600 tw601 tw602 tw1 tw603 ⟨rfl, rfl⟩ ⟨rfl, by decide, by decide, pd_X6_letter⟩ ⟨Nat.le_of_ble_eq_true rfl, Nat.le_of_ble_eq_true rfl⟩ ⟨(Nat.le_of_ble_eq_true rfl), (Nat.le_of_ble_eq_true rfl)⟩ (Nat.le_of_ble_eq_true rfl) dL_letters_140 rfl hp9 (fun v9 h140 hq9 => ?_)
              obtain ⟨r140, rfl, hw⟩ := hq9
              refine aw_iload (pc := 143) C dL_letters_143 rfl ?_
              refine aw_icmp_ne (pc := 145) (tgt := 199) C dL_letters_145 (by decide) (fun hc9 => ?_) (fun hc9 => ?_)
              · have hw := hw.1 hc9
                refine aw_sub [] trivial ?_
                exact J_199  _ hw
              · have hw := hw.2 hc9
                refine aw_aload_n (pc := 148) C dL_letters_148 rfl rfl ?_
                refine aw_iconst (pc := 149) C dL_letters_149 (i := (0 : Int)) (by decide) ?_
                refine aw_iload (pc := 150) C dL_letters_150 rfl ?_
                refine aw_iconst (pc := 152) C dL_letters_152 (i := (4 : Int)) (by decide) ?_
                obtain ⟨hp9, hw⟩ := hw
                refine aw_callV (pc := 153) (as := [vI (0 : Int), vI x8_3, vI (4 : Int)]) C ci6 (fun As hA => met_X6_letter G l As a0 (0 : Int) x8_3 (4 : Int) _ _ hA hw) tw600 tw601 tw602 tw1 tw603 ⟨rfl, rfl⟩ ⟨rfl, by decide, by decide, pd_X6_letter⟩ ⟨Nat.le_of_ble_eq_true rfl, Nat.le_of_ble_eq_true rfl⟩ ⟨(Nat.le_of_ble_eq_true rfl), (Nat.le_of_ble_eq_true rfl)⟩ (Nat.le_of_ble_eq_true rfl) dL_letters_153 rfl hp9 (fun v9 h153 hq9 => ?_)
                obtain ⟨r153, rfl, hw⟩ := hq9
                refine aw_aload (pc := 156) C dL_letters_156 rfl ?_
                refine aw_iconst (pc := 158) C dL_letters_158 (i := (2 : Int)) (by decide) ?_
                refine aw_iload (pc := 159) C dL_letters_159 rfl ?_
                obtain ⟨hp9, hw⟩ := hw
                refine aw_imul (pc := 161) C dL_letters_161 hp9 ?_
                refine aw_iconst (pc := 162) C dL_letters_162 (i := (1 : Int)) (by decide) ?_
                obtain ⟨hp9, hw⟩ := hw
                refine aw_iadd (pc := 163) C dL_letters_163 hp9 ?_
                obtain ⟨⟨k9, hp9⟩, hw⟩ := hw
                refine aw_iald (pc := 164) C dL_letters_164 hp9 ?_
                refine aw_icmp_ne (pc := 165) (tgt := 199) C dL_letters_165 (by decide) (fun hc9 => ?_) (fun hc9 => ?_)
                · have hw := hw.1 hc9
                  refine aw_sub [] trivial ?_
                  exact J_199  _ hw
                · have hw := hw.2 hc9
                  refine aw_aload_n (pc := 168) C dL_letters_168 rfl rfl ?_
                  refine aw_iconst (pc := 169) C dL_letters_169 (i := (0 : Int)) (by decide) ?_
                  refine aw_iload (pc := 170) C dL_letters_170 rfl ?_
                  refine aw_iconst (pc := 172) C dL_letters_172 (i := (5 : Int)) (by decide) ?_
                  obtain ⟨hp9, hw⟩ := hw
                  refine aw_callV (pc := 173) (as := [vI (0 : Int), vI x8_3, vI (5 : Int)]) C ci6 (fun As hA => met_X6_letter G l As a0 (0 : Int) x8_3 (5 : Int) _ _ hA hw) tw600 tw601 tw602 tw1 tw603 ⟨rfl, rfl⟩ ⟨rfl, by decide, by decide, pd_X6_letter⟩ ⟨Nat.le_of_ble_eq_true rfl, Nat.le_of_ble_eq_true rfl⟩ ⟨(Nat.le_of_ble_eq_true rfl), (Nat.le_of_ble_eq_true rfl)⟩ (Nat.le_of_ble_eq_true rfl) dL_letters_173 rfl hp9 (fun v9 h173 hq9 => ?_)
                  obtain ⟨r173, rfl, hw⟩ := hq9
                  refine aw_iload (pc := 176) C dL_letters_176 rfl ?_
                  obtain ⟨k_196, hk_196, hw⟩ := jn_out hw
                  have J_196 : ∀ (t1_196 : Int) (h_196 : AH), k_196 t1_196 h_196 → AW G p l e ({ frames := 7, cells := 0, slots := 0, locals := 159 } : Room) s m args below meth c 0 0 (MQ below (QG G (oI Q)) args s 0 0 (frA G)) 196 (eOf [(0, vR a0), (1, vR a1), (2, vR a2), (3, vR a3), (4, vR a4), (5, vR a5), (6, vR a6), (7, vR a7), (8, vI x8_3), (9, vI x9_18), (10, vI t0_74)]) [vI t1_196, vI r173] h_196 := by
                    intro t1_196 h_196 hw
                    rw [hk_196] at hw
                    refine aw_icmp_eq (pc := 196) (tgt := 201) C dL_letters_196 (by decide) (fun hc9 => ?_) (fun hc9 => ?_)
                    · have hw := hw.1 hc9
                      refine aw_iload (pc := 201) C dL_letters_201 rfl ?_
                      obtain ⟨k_263, hk_263, hw⟩ := jn_out hw
                      have J_263 : ∀  (h_263 : AH), k_263  h_263 → AW G p l e ({ frames := 7, cells := 0, slots := 0, locals := 159 } : Room) s m args below meth c 0 0 (MQ below (QG G (oI Q)) args s 0 0 (frA G)) 263 (eOf [(0, vR a0), (1, vR a1), (2, vR a2), (3, vR a3), (4, vR a4), (5, vR a5), (6, vR a6), (7, vR a7), (8, vI x8_3), (10, vI t0_74)]) [] h_263 := by
                        intro  h_263 hw
                        rw [hk_263] at hw
                        refine aw_aload_n (pc := 263) C dL_letters_263 rfl rfl ?_
                        refine aw_iload (pc := 264) C dL_letters_264 rfl ?_
                        refine aw_iconst (pc := 266) C dL_letters_266 (i := (0 : Int)) (by decide) ?_
                        obtain ⟨hp9, hw⟩ := hw
                        refine aw_callV (pc := 267) (as := [vI x8_3, vI (0 : Int)]) C ci6 (fun As hA => met_X6_way G l As a0 x8_3 (0 : Int) _ _ hA hw) tw612 tw613 tw614 tw1 tw615 ⟨rfl, rfl⟩ ⟨rfl, by decide, by decide, pd_X6_way⟩ ⟨Nat.le_of_ble_eq_true rfl, Nat.le_of_ble_eq_true rfl⟩ ⟨(Nat.le_of_ble_eq_true rfl), (Nat.le_of_ble_eq_true rfl)⟩ (Nat.le_of_ble_eq_true rfl) dL_letters_267 rfl hp9 (fun v9 h267 hq9 => ?_)
                        obtain ⟨r267, rfl, hw⟩ := hq9
                        refine aw_iload (pc := 270) C dL_letters_270 rfl ?_
                        obtain ⟨k_309, hk_309, hw⟩ := jn_out hw
                        have J_309 : ∀  (h_309 : AH), k_309  h_309 → AW G p l e ({ frames := 7, cells := 0, slots := 0, locals := 159 } : Room) s m args below meth c 0 0 (MQ below (QG G (oI Q)) args s 0 0 (frA G)) 309 (eOf []) [] h_309 := by
                          intro  h_309 hw
                          rw [hk_309] at hw
                          refine aw_iconst (pc := 309) C dL_letters_309 (i := (0 : Int)) (by decide) ?_
                          obtain ⟨hp9, hw⟩ := hw
                          exact aw_zret (pc := 310) C hr dL_letters_310 ⟨Nat.le_of_ble_eq_true rfl, Nat.le_of_ble_eq_true rfl⟩ hp9 ⟨_, rfl, hw⟩
                        refine aw_icmp_ne (pc := 272) (tgt := 309) C dL_letters_272 (by decide) (fun hc9 => ?_) (fun hc9 => ?_)
                        · have hw := hw.1 hc9
                          refine aw_sub [] trivial ?_
                          exact J_309  _ hw
                        · have hw := hw.2 hc9
                          refine aw_aload_n (pc := 275) C dL_letters_275 rfl rfl ?_
                          refine aw_iload (pc := 276) C dL_letters_276 rfl ?_
                          refine aw_iconst (pc := 278) C dL_letters_278 (i := (1 : Int)) (by decide) ?_
                          obtain ⟨hp9, hw⟩ := hw
                          refine aw_callV (pc := 279) (as := [vI x8_3, vI (1 : Int)]) C ci6 (fun As hA => met_X6_way G l As a0 x8_3 (1 : Int) _ _ hA hw) tw612 tw613 tw614 tw1 tw615 ⟨rfl, rfl⟩ ⟨rfl, by decide, by decide, pd_X6_way⟩ ⟨Nat.le_of_ble_eq_true rfl, Nat.le_of_ble_eq_true rfl⟩ ⟨(Nat.le_of_ble_eq_true rfl), (Nat.le_of_ble_eq_true rfl)⟩ (Nat.le_of_ble_eq_true rfl) dL_letters_279 rfl hp9 (fun v9 h279 hq9 => ?_)
                          obtain ⟨r279, rfl, hw⟩ := hq9
                          refine aw_aload (pc := 282) C dL_letters_282 rfl ?_
                          refine aw_iconst (pc := 284) C dL_letters_284 (i := (2 : Int)) (by decide) ?_
                          refine aw_iload (pc := 285) C dL_letters_285 rfl ?_
                          obtain ⟨hp9, hw⟩ := hw
                          refine aw_imul (pc := 287) C dL_letters_287 hp9 ?_
                          refine aw_iconst (pc := 288) C dL_letters_288 (i := (1 : Int)) (by decide) ?_
                          obtain ⟨hp9, hw⟩ := hw
                          refine aw_iadd (pc := 289) C dL_letters_289 hp9 ?_
                          obtain ⟨⟨k9, hp9⟩, hw⟩ := hw
                          refine aw_iald (pc := 290) C dL_letters_290 hp9 ?_
                          refine aw_icmp_ne (pc := 291) (tgt := 309) C dL_letters_291 (by decide) (fun hc9 => ?_) (fun hc9 => ?_)
                          · have hw := hw.1 hc9
                            refine aw_sub [] trivial ?_
                            exact J_309  _ hw
                          · have hw := hw.2 hc9
                            refine aw_aload_n (pc := 294) C dL_letters_294 rfl rfl ?_
                            refine aw_iload (pc := 295) C dL_letters_295 rfl ?_
                            refine aw_iconst (pc := 297) C dL_letters_297 (i := (2 : Int)) (by decide) ?_
                            obtain ⟨hp9, hw⟩ := hw
                            refine aw_callV (pc := 298) (as := [vI x8_3, vI (2 : Int)]) C ci6 (fun As hA => met_X6_way G l As a0 x8_3 (2 : Int) _ _ hA hw) tw612 tw613 tw614 tw1 tw615 ⟨rfl, rfl⟩ ⟨rfl, by decide, by decide, pd_X6_way⟩ ⟨Nat.le_of_ble_eq_true rfl, Nat.le_of_ble_eq_true rfl⟩ ⟨(Nat.le_of_ble_eq_true rfl), (Nat.le_of_ble_eq_true rfl)⟩ (Nat.le_of_ble_eq_true rfl) dL_letters_298 rfl hp9 (fun v9 h298 hq9 => ?_)
                            obtain ⟨r298, rfl, hw⟩ := hq9
                            refine aw_aload (pc := 301) C dL_letters_301 rfl ?_
                            refine aw_iload (pc := 303) C dL_letters_303 rfl ?_
                            obtain ⟨⟨k9, hp9⟩, hw⟩ := hw
                            refine aw_iald (pc := 305) C dL_letters_305 hp9 ?_
                            refine aw_icmp_eq (pc := 306) (tgt := 311) C dL_letters_306 (by decide) (fun hc9 => ?_) (fun hc9 => ?_)
                            · have hw := hw.1 hc9
                              obtain ⟨hp9, hw⟩ := hw
                              refine aw_iincN (pc := 311) C dL_letters_311 (k := 1) (by decide) rfl (by rw [hml]; decide) hp9 (fun x8_311 e9 => ?_)
                              have hw := hw x8_311 e9
                              refine aw_goto (pc := 314) (tgt := 3) C dL_letters_314 (by decide) ?_
                              obtain ⟨m9, hm9, hw⟩ := hw
                              refine aw_sub [(0, vR a0), (1, vR a1), (2, vR a2), (3, vR a3), (4, vR a4), (5, vR a5), (6, vR a6), (7, vR a7), (8, vI x8_311)] ⟨rfl, rfl, rfl, rfl, rfl, rfl, rfl, rfl, rfl, trivial⟩ ?_
                              exact ih_3 m9 hm9 _ _ hw
                            · have hw := hw.2 hc9
                              refine aw_sub [] trivial ?_
                              exact J_309  _ hw
                      refine aw_if_lt (pc := 203) (tgt := 263) C dL_letters_203 (by decide) (fun hc9 => ?_) (fun hc9 => ?_)
                      · have hw := hw.1 hc9
                        refine aw_sub [(0, vR a0), (1, vR a1), (2, vR a2), (3, vR a3), (4, vR a4), (5, vR a5), (6, vR a6), (7, vR a7), (8, vI x8_3), (10, vI t0_74)] ⟨rfl, rfl, rfl, rfl, rfl, rfl, rfl, rfl, rfl, rfl, trivial⟩ ?_
                        exact J_263  _ hw
                      · have hw := hw.2 hc9
                        refine aw_aload_n (pc := 206) C dL_letters_206 rfl rfl ?_
                        refine aw_iconst (pc := 207) C dL_letters_207 (i := (1 : Int)) (by decide) ?_
                        refine aw_iload (pc := 208) C dL_letters_208 rfl ?_
                        refine aw_iconst (pc := 210) C dL_letters_210 (i := (3 : Int)) (by decide) ?_
                        obtain ⟨hp9, hw⟩ := hw
                        refine aw_callV (pc := 211) (as := [vI (1 : Int), vI x9_18, vI (3 : Int)]) C ci6 (fun As hA => met_X6_letter G l As a0 (1 : Int) x9_18 (3 : Int) _ _ hA hw) tw600 tw601 tw602 tw1 tw603 ⟨rfl, rfl⟩ ⟨rfl, by decide, by decide, pd_X6_letter⟩ ⟨Nat.le_of_ble_eq_true rfl, Nat.le_of_ble_eq_true rfl⟩ ⟨(Nat.le_of_ble_eq_true rfl), (Nat.le_of_ble_eq_true rfl)⟩ (Nat.le_of_ble_eq_true rfl) dL_letters_211 rfl hp9 (fun v9 h211 hq9 => ?_)
                        obtain ⟨r211, rfl, hw⟩ := hq9
                        refine aw_iload (pc := 214) C dL_letters_214 rfl ?_
                        obtain ⟨k_261, hk_261, hw⟩ := jn_out hw
                        have J_261 : ∀  (h_261 : AH), k_261  h_261 → AW G p l e ({ frames := 7, cells := 0, slots := 0, locals := 159 } : Room) s m args below meth c 0 0 (MQ below (QG G (oI Q)) args s 0 0 (frA G)) 261 (eOf []) [] h_261 := by
                          intro  h_261 hw
                          rw [hk_261] at hw
                          refine aw_iconst (pc := 261) C dL_letters_261 (i := (0 : Int)) (by decide) ?_
                          obtain ⟨hp9, hw⟩ := hw
                          exact aw_zret (pc := 262) C hr dL_letters_262 ⟨Nat.le_of_ble_eq_true rfl, Nat.le_of_ble_eq_true rfl⟩ hp9 ⟨_, rfl, hw⟩
                        refine aw_icmp_ne (pc := 216) (tgt := 261) C dL_letters_216 (by decide) (fun hc9 => ?_) (fun hc9 => ?_)
                        · have hw := hw.1 hc9
                          refine aw_sub [] trivial ?_
                          exact J_261  _ hw
                        · have hw := hw.2 hc9
                          refine aw_aload_n (pc := 219) C dL_letters_219 rfl rfl ?_
                          refine aw_iconst (pc := 220) C dL_letters_220 (i := (1 : Int)) (by decide) ?_
                          refine aw_iload (pc := 221) C dL_letters_221 rfl ?_
                          refine aw_iconst (pc := 223) C dL_letters_223 (i := (4 : Int)) (by decide) ?_
                          obtain ⟨hp9, hw⟩ := hw
                          refine aw_callV (pc := 224) (as := [vI (1 : Int), vI x9_18, vI (4 : Int)]) C ci6 (fun As hA => met_X6_letter G l As a0 (1 : Int) x9_18 (4 : Int) _ _ hA hw) tw600 tw601 tw602 tw1 tw603 ⟨rfl, rfl⟩ ⟨rfl, by decide, by decide, pd_X6_letter⟩ ⟨Nat.le_of_ble_eq_true rfl, Nat.le_of_ble_eq_true rfl⟩ ⟨(Nat.le_of_ble_eq_true rfl), (Nat.le_of_ble_eq_true rfl)⟩ (Nat.le_of_ble_eq_true rfl) dL_letters_224 rfl hp9 (fun v9 h224 hq9 => ?_)
                          obtain ⟨r224, rfl, hw⟩ := hq9
                          refine aw_aload (pc := 227) C dL_letters_227 rfl ?_
                          refine aw_iconst (pc := 229) C dL_letters_229 (i := (2 : Int)) (by decide) ?_
                          refine aw_iload (pc := 230) C dL_letters_230 rfl ?_
                          obtain ⟨hp9, hw⟩ := hw
                          refine aw_imul (pc := 232) C dL_letters_232 hp9 ?_
                          refine aw_iconst (pc := 233) C dL_letters_233 (i := (1 : Int)) (by decide) ?_
                          obtain ⟨hp9, hw⟩ := hw
                          refine aw_iadd (pc := 234) C dL_letters_234 hp9 ?_
                          obtain ⟨⟨k9, hp9⟩, hw⟩ := hw
                          refine aw_iald (pc := 235) C dL_letters_235 hp9 ?_
                          refine aw_icmp_ne (pc := 236) (tgt := 261) C dL_letters_236 (by decide) (fun hc9 => ?_) (fun hc9 => ?_)
                          · have hw := hw.1 hc9
                            refine aw_sub [] trivial ?_
                            exact J_261  _ hw
                          · have hw := hw.2 hc9
                            refine aw_aload_n (pc := 239) C dL_letters_239 rfl rfl ?_
                            refine aw_iconst (pc := 240) C dL_letters_240 (i := (1 : Int)) (by decide) ?_
                            refine aw_iload (pc := 241) C dL_letters_241 rfl ?_
                            refine aw_iconst (pc := 243) C dL_letters_243 (i := (5 : Int)) (by decide) ?_
                            obtain ⟨hp9, hw⟩ := hw
                            refine aw_callV (pc := 244) (as := [vI (1 : Int), vI x9_18, vI (5 : Int)]) C ci6 (fun As hA => met_X6_letter G l As a0 (1 : Int) x9_18 (5 : Int) _ _ hA hw) tw600 tw601 tw602 tw1 tw603 ⟨rfl, rfl⟩ ⟨rfl, by decide, by decide, pd_X6_letter⟩ ⟨Nat.le_of_ble_eq_true rfl, Nat.le_of_ble_eq_true rfl⟩ ⟨(Nat.le_of_ble_eq_true rfl), (Nat.le_of_ble_eq_true rfl)⟩ (Nat.le_of_ble_eq_true rfl) dL_letters_244 rfl hp9 (fun v9 h244 hq9 => ?_)
                            obtain ⟨r244, rfl, hw⟩ := hq9
                            refine aw_iload (pc := 247) C dL_letters_247 rfl ?_
                            refine aw_iload (pc := 249) C dL_letters_249 rfl ?_
                            refine aw_aload_n (pc := 251) C dL_letters_251 rfl rfl ?_
                            refine aw_aload_n (pc := 252) C dL_letters_252 rfl rfl ?_
                            refine aw_aload (pc := 253) C dL_letters_253 rfl ?_
                            refine aw_callS (pc := 255) (as := [vI x8_3, vI x9_18, vR a1, vR a2, vR a4]) C (fun As hA => met_L_far G l As x8_3 x9_18 a1 a2 a4 _ _ hA hw) tw462 tw463 tw0 tw464 ⟨rfl, rfl⟩ ⟨by decide, by decide, pd_L_far⟩ ⟨Nat.le_of_ble_eq_true rfl, Nat.le_of_ble_eq_true rfl⟩ ⟨(Nat.le_of_ble_eq_true rfl), (Nat.le_of_ble_eq_true rfl)⟩ (Nat.le_of_ble_eq_true rfl) dL_letters_255 rfl (fun v9 h255 hq9 => ?_)
                            obtain ⟨r255, rfl, hw⟩ := hq9
                            refine aw_icmp_eq (pc := 258) (tgt := 263) C dL_letters_258 (by decide) (fun hc9 => ?_) (fun hc9 => ?_)
                            · have hw := hw.1 hc9
                              refine aw_sub [(0, vR a0), (1, vR a1), (2, vR a2), (3, vR a3), (4, vR a4), (5, vR a5), (6, vR a6), (7, vR a7), (8, vI x8_3), (10, vI t0_74)] ⟨rfl, rfl, rfl, rfl, rfl, rfl, rfl, rfl, rfl, rfl, trivial⟩ ?_
                              exact J_263  _ hw
                            · have hw := hw.2 hc9
                              refine aw_sub [] trivial ?_
                              exact J_261  _ hw
                    · have hw := hw.2 hc9
                      refine aw_sub [] trivial ?_
                      exact J_199  _ hw
                  refine aw_if_ge (pc := 178) (tgt := 185) C dL_letters_178 (by decide) (fun hc9 => ?_) (fun hc9 => ?_)
                  · have hw := hw.1 hc9
                    refine aw_iload (pc := 185) C dL_letters_185 rfl ?_
                    refine aw_iload (pc := 187) C dL_letters_187 rfl ?_
                    refine aw_aload_n (pc := 189) C dL_letters_189 rfl rfl ?_
                    refine aw_aload_n (pc := 190) C dL_letters_190 rfl rfl ?_
                    refine aw_aload (pc := 191) C dL_letters_191 rfl ?_
                    refine aw_callS (pc := 193) (as := [vI x8_3, vI x9_18, vR a1, vR a2, vR a4]) C (fun As hA => met_L_far G l As x8_3 x9_18 a1 a2 a4 _ _ hA hw) tw462 tw463 tw0 tw464 ⟨rfl, rfl⟩ ⟨by decide, by decide, pd_L_far⟩ ⟨Nat.le_of_ble_eq_true rfl, Nat.le_of_ble_eq_true rfl⟩ ⟨(Nat.le_of_ble_eq_true rfl), (Nat.le_of_ble_eq_true rfl)⟩ (Nat.le_of_ble_eq_true rfl) dL_letters_193 rfl (fun v9 h193 hq9 => ?_)
                    obtain ⟨r193, rfl, hw⟩ := hq9
                    refine aw_sub [(0, vR a0), (1, vR a1), (2, vR a2), (3, vR a3), (4, vR a4), (5, vR a5), (6, vR a6), (7, vR a7), (8, vI x8_3), (9, vI x9_18), (10, vI t0_74)] ⟨rfl, rfl, rfl, rfl, rfl, rfl, rfl, rfl, rfl, rfl, rfl, trivial⟩ ?_
                    exact J_196 _ _ hw
                  · have hw := hw.2 hc9
                    refine aw_iconst (pc := 181) C dL_letters_181 (i := (0 : Int)) (by decide) ?_
                    refine aw_goto (pc := 182) (tgt := 196) C dL_letters_182 (by decide) ?_
                    refine aw_sub [(0, vR a0), (1, vR a1), (2, vR a2), (3, vR a3), (4, vR a4), (5, vR a5), (6, vR a6), (7, vR a7), (8, vI x8_3), (9, vI x9_18), (10, vI t0_74)] ⟨rfl, rfl, rfl, rfl, rfl, rfl, rfl, rfl, rfl, rfl, rfl, trivial⟩ ?_
                    exact J_196 _ _ hw
      refine aw_if_ge (pc := 22) (tgt := 29) C dL_letters_22 (by decide) (fun hc9 => ?_) (fun hc9 => ?_)
      · have hw := hw.1 hc9
        refine aw_aload_n (pc := 29) C dL_letters_29 rfl rfl ?_
        refine aw_iconst (pc := 30) C dL_letters_30 (i := (2 : Int)) (by decide) ?_
        refine aw_iload (pc := 31) C dL_letters_31 rfl ?_
        obtain ⟨hp9, hw⟩ := hw
        refine aw_imul (pc := 33) C dL_letters_33 hp9 ?_
        obtain ⟨⟨k9, hp9⟩, hw⟩ := hw
        refine aw_iald (pc := 34) C dL_letters_34 hp9 ?_
        refine aw_bipush (pc := 35) C dL_letters_35 (i := (16 : Int)) (by decide) ?_
        obtain ⟨hp9, hw⟩ := hw
        refine aw_irem (pc := 37) C dL_letters_37 hp9 ?_
        refine aw_aload_n (pc := 38) C dL_letters_38 rfl rfl ?_
        refine aw_iconst (pc := 39) C dL_letters_39 (i := (2 : Int)) (by decide) ?_
        refine aw_iload (pc := 40) C dL_letters_40 rfl ?_
        obtain ⟨hp9, hw⟩ := hw
        refine aw_imul (pc := 42) C dL_letters_42 hp9 ?_
        obtain ⟨⟨k9, hp9⟩, hw⟩ := hw
        refine aw_iald (pc := 43) C dL_letters_43 hp9 ?_
        refine aw_bipush (pc := 44) C dL_letters_44 (i := (16 : Int)) (by decide) ?_
        obtain ⟨hp9, hw⟩ := hw
        refine aw_irem (pc := 46) C dL_letters_46 hp9 ?_
        obtain ⟨hp9, hw⟩ := hw
        refine aw_isub (pc := 47) C dL_letters_47 hp9 ?_
        refine aw_callS (pc := 48) (as := [vI (((haI h_3 a1 ((2 : Int) * x8_3)) % (16 : Int)) - ((haI h_3 a2 ((2 : Int) * x9_18)) % (16 : Int)))]) C (fun As hA => met_L_abs G l As (((haI h_3 a1 ((2 : Int) * x8_3)) % (16 : Int)) - ((haI h_3 a2 ((2 : Int) * x9_18)) % (16 : Int))) _ _ hA hw) tw465 tw466 tw0 tw467 ⟨rfl, rfl⟩ ⟨by decide, by decide, pd_L_abs⟩ ⟨Nat.le_of_ble_eq_true rfl, Nat.le_of_ble_eq_true rfl⟩ ⟨(Nat.le_of_ble_eq_true rfl), (Nat.le_of_ble_eq_true rfl)⟩ (Nat.le_of_ble_eq_true rfl) dL_letters_48 rfl (fun v9 h48 hq9 => ?_)
        obtain ⟨r48, rfl, hw⟩ := hq9
        refine aw_aload_n (pc := 51) C dL_letters_51 rfl rfl ?_
        refine aw_iconst (pc := 52) C dL_letters_52 (i := (2 : Int)) (by decide) ?_
        refine aw_iload (pc := 53) C dL_letters_53 rfl ?_
        obtain ⟨hp9, hw⟩ := hw
        refine aw_imul (pc := 55) C dL_letters_55 hp9 ?_
        obtain ⟨⟨k9, hp9⟩, hw⟩ := hw
        refine aw_iald (pc := 56) C dL_letters_56 hp9 ?_
        refine aw_bipush (pc := 57) C dL_letters_57 (i := (16 : Int)) (by decide) ?_
        obtain ⟨hp9, hw⟩ := hw
        refine aw_idiv (pc := 59) C dL_letters_59 hp9 ?_
        refine aw_aload_n (pc := 60) C dL_letters_60 rfl rfl ?_
        refine aw_iconst (pc := 61) C dL_letters_61 (i := (2 : Int)) (by decide) ?_
        refine aw_iload (pc := 62) C dL_letters_62 rfl ?_
        obtain ⟨hp9, hw⟩ := hw
        refine aw_imul (pc := 64) C dL_letters_64 hp9 ?_
        obtain ⟨⟨k9, hp9⟩, hw⟩ := hw
        refine aw_iald (pc := 65) C dL_letters_65 hp9 ?_
        refine aw_bipush (pc := 66) C dL_letters_66 (i := (16 : Int)) (by decide) ?_
        obtain ⟨hp9, hw⟩ := hw
        refine aw_idiv (pc := 68) C dL_letters_68 hp9 ?_
        obtain ⟨hp9, hw⟩ := hw
        refine aw_isub (pc := 69) C dL_letters_69 hp9 ?_
        refine aw_callS (pc := 70) (as := [vI (((haI h48 a1 ((2 : Int) * x8_3)) / (16 : Int)) - ((haI h48 a2 ((2 : Int) * x9_18)) / (16 : Int)))]) C (fun As hA => met_L_abs G l As (((haI h48 a1 ((2 : Int) * x8_3)) / (16 : Int)) - ((haI h48 a2 ((2 : Int) * x9_18)) / (16 : Int))) _ _ hA hw) tw465 tw466 tw0 tw467 ⟨rfl, rfl⟩ ⟨by decide, by decide, pd_L_abs⟩ ⟨Nat.le_of_ble_eq_true rfl, Nat.le_of_ble_eq_true rfl⟩ ⟨(Nat.le_of_ble_eq_true rfl), (Nat.le_of_ble_eq_true rfl)⟩ (Nat.le_of_ble_eq_true rfl) dL_letters_70 rfl (fun v9 h70 hq9 => ?_)
        obtain ⟨r70, rfl, hw⟩ := hq9
        obtain ⟨hp9, hw⟩ := hw
        refine aw_iadd (pc := 73) C dL_letters_73 hp9 ?_
        refine aw_sub [(0, vR a0), (1, vR a1), (2, vR a2), (3, vR a3), (4, vR a4), (5, vR a5), (6, vR a6), (7, vR a7), (8, vI x8_3), (9, vI x9_18)] ⟨rfl, rfl, rfl, rfl, rfl, rfl, rfl, rfl, rfl, rfl, trivial⟩ ?_
        exact J_74 _ _ hw
      · have hw := hw.2 hc9
        refine aw_iconst (pc := 25) C dL_letters_25 (i := (0 : Int)) (by decide) ?_
        refine aw_goto (pc := 26) (tgt := 74) C dL_letters_26 (by decide) ?_
        refine aw_sub [(0, vR a0), (1, vR a1), (2, vR a2), (3, vR a3), (4, vR a4), (5, vR a5), (6, vR a6), (7, vR a7), (8, vI x8_3), (9, vI x9_18)] ⟨rfl, rfl, rfl, rfl, rfl, rfl, rfl, rfl, rfl, rfl, trivial⟩ ?_
        exact J_74 _ _ hw
  refine aw_sub [(0, vR a0), (1, vR a1), (2, vR a2), (3, vR a3), (4, vR a4), (5, vR a5), (6, vR a6), (7, vR a7), (8, vI (0 : Int))] ⟨rfl, rfl, rfl, rfl, rfl, rfl, rfl, rfl, rfl, trivial⟩ ?_
  exact L_3 n9 _ _ hi9
theorem dL_counts_0 : decode cL_counts 0 = .ok (.iconst 0, 1) := by decide +kernel
theorem dL_counts_1 : decode cL_counts 1 = .ok (.istore 10, 2) := by decide +kernel
theorem dL_counts_3 : decode cL_counts 3 = .ok (.iconst 0, 1) := by decide +kernel
theorem dL_counts_4 : decode cL_counts 4 = .ok (.istore 11, 2) := by decide +kernel
theorem dL_counts_6 : decode cL_counts 6 = .ok (.iconst 0, 1) := by decide +kernel
theorem dL_counts_7 : decode cL_counts 7 = .ok (.istore 12, 2) := by decide +kernel
theorem dL_counts_9 : decode cL_counts 9 = .ok (.iload 12, 2) := by decide +kernel
theorem dL_counts_11 : decode cL_counts 11 = .ok (.aload 6, 2) := by decide +kernel
theorem dL_counts_13 : decode cL_counts 13 = .ok (.iconst 0, 1) := by decide +kernel
theorem dL_counts_14 : decode cL_counts 14 = .ok (.iaload, 1) := by decide +kernel
theorem dL_counts_15 : decode cL_counts 15 = .ok (.if_icmp .ge 60, 3) := by decide +kernel
theorem dL_counts_18 : decode cL_counts 18 = .ok (.iload 10, 2) := by decide +kernel
theorem dL_counts_20 : decode cL_counts 20 = .ok (.aload 8, 2) := by decide +kernel
theorem dL_counts_22 : decode cL_counts 22 = .ok (.iconst 2, 1) := by decide +kernel
theorem dL_counts_23 : decode cL_counts 23 = .ok (.iload 12, 2) := by decide +kernel
theorem dL_counts_25 : decode cL_counts 25 = .ok (.imul, 1) := by decide +kernel
theorem dL_counts_26 : decode cL_counts 26 = .ok (.iaload, 1) := by decide +kernel
theorem dL_counts_27 : decode cL_counts 27 = .ok (.ifCond .ge 7, 3) := by decide +kernel
theorem dL_counts_30 : decode cL_counts 30 = .ok (.iconst 0, 1) := by decide +kernel
theorem dL_counts_31 : decode cL_counts 31 = .ok (.goto 21, 3) := by decide +kernel
theorem dL_counts_34 : decode cL_counts 34 = .ok (.iload 12, 2) := by decide +kernel
theorem dL_counts_36 : decode cL_counts 36 = .ok (.aload 8, 2) := by decide +kernel
theorem dL_counts_38 : decode cL_counts 38 = .ok (.iconst 2, 1) := by decide +kernel
theorem dL_counts_39 : decode cL_counts 39 = .ok (.iload 12, 2) := by decide +kernel
theorem dL_counts_41 : decode cL_counts 41 = .ok (.imul, 1) := by decide +kernel
theorem dL_counts_42 : decode cL_counts 42 = .ok (.iaload, 1) := by decide +kernel
theorem dL_counts_43 : decode cL_counts 43 = .ok (.aload 4, 2) := by decide +kernel
theorem dL_counts_45 : decode cL_counts 45 = .ok (.aload 5, 2) := by decide +kernel
theorem dL_counts_47 : decode cL_counts 47 = .ok (.aload 7, 2) := by decide +kernel
theorem dL_counts_49 : decode cL_counts 49 = .ok (.invokestatic 14, 3) := by decide +kernel
theorem dL_counts_52 : decode cL_counts 52 = .ok (.iadd, 1) := by decide +kernel
theorem dL_counts_53 : decode cL_counts 53 = .ok (.istore 10, 2) := by decide +kernel
theorem dL_counts_55 : decode cL_counts 55 = .ok (.iload 11, 2) := by decide +kernel
theorem dL_counts_57 : decode cL_counts 57 = .ok (.aload 9, 2) := by decide +kernel
theorem dL_counts_59 : decode cL_counts 59 = .ok (.iconst 2, 1) := by decide +kernel
theorem dL_counts_60 : decode cL_counts 60 = .ok (.iload 12, 2) := by decide +kernel
theorem dL_counts_62 : decode cL_counts 62 = .ok (.imul, 1) := by decide +kernel
theorem dL_counts_63 : decode cL_counts 63 = .ok (.iconst 1, 1) := by decide +kernel
theorem dL_counts_64 : decode cL_counts 64 = .ok (.iadd, 1) := by decide +kernel
theorem dL_counts_65 : decode cL_counts 65 = .ok (.iaload, 1) := by decide +kernel
theorem dL_counts_66 : decode cL_counts 66 = .ok (.iadd, 1) := by decide +kernel
theorem dL_counts_67 : decode cL_counts 67 = .ok (.istore 11, 2) := by decide +kernel
theorem dL_counts_69 : decode cL_counts 69 = .ok (.iinc 12 1, 3) := by decide +kernel
theorem dL_counts_72 : decode cL_counts 72 = .ok (.goto (-63), 3) := by decide +kernel
theorem dL_counts_75 : decode cL_counts 75 = .ok (.iconst 0, 1) := by decide +kernel
theorem dL_counts_76 : decode cL_counts 76 = .ok (.istore 12, 2) := by decide +kernel
theorem dL_counts_78 : decode cL_counts 78 = .ok (.iload 12, 2) := by decide +kernel
theorem dL_counts_80 : decode cL_counts 80 = .ok (.bipush 8, 2) := by decide +kernel
theorem dL_counts_82 : decode cL_counts 82 = .ok (.if_icmp .ge 25, 3) := by decide +kernel
theorem dL_counts_85 : decode cL_counts 85 = .ok (.aload_n 0, 1) := by decide +kernel
theorem dL_counts_86 : decode cL_counts 86 = .ok (.iload 12, 2) := by decide +kernel
theorem dL_counts_88 : decode cL_counts 88 = .ok (.invokevirtual 83, 3) := by decide +kernel
theorem dL_counts_91 : decode cL_counts 91 = .ok (.aload 7, 2) := by decide +kernel
theorem dL_counts_93 : decode cL_counts 93 = .ok (.iload 12, 2) := by decide +kernel
theorem dL_counts_95 : decode cL_counts 95 = .ok (.iaload, 1) := by decide +kernel
theorem dL_counts_96 : decode cL_counts 96 = .ok (.if_icmp .eq 5, 3) := by decide +kernel
theorem dL_counts_99 : decode cL_counts 99 = .ok (.iconst 0, 1) := by decide +kernel
theorem dL_counts_100 : decode cL_counts 100 = .ok (.ireturn, 1) := by decide +kernel
theorem dL_counts_101 : decode cL_counts 101 = .ok (.iinc 12 1, 3) := by decide +kernel
theorem dL_counts_104 : decode cL_counts 104 = .ok (.goto (-26), 3) := by decide +kernel
theorem dL_counts_107 : decode cL_counts 107 = .ok (.aload 6, 2) := by decide +kernel
theorem dL_counts_109 : decode cL_counts 109 = .ok (.iconst 0, 1) := by decide +kernel
theorem dL_counts_110 : decode cL_counts 110 = .ok (.iaload, 1) := by decide +kernel
theorem dL_counts_111 : decode cL_counts 111 = .ok (.aload 6, 2) := by decide +kernel
theorem dL_counts_113 : decode cL_counts 113 = .ok (.iconst 1, 1) := by decide +kernel
theorem dL_counts_114 : decode cL_counts 114 = .ok (.iaload, 1) := by decide +kernel
theorem dL_counts_115 : decode cL_counts 115 = .ok (.iadd, 1) := by decide +kernel
theorem dL_counts_116 : decode cL_counts 116 = .ok (.istore 12, 2) := by decide +kernel
theorem dL_counts_118 : decode cL_counts 118 = .ok (.aload_n 0, 1) := by decide +kernel
theorem dL_counts_119 : decode cL_counts 119 = .ok (.invokevirtual 86, 3) := by decide +kernel
theorem dL_counts_122 : decode cL_counts 122 = .ok (.iload 12, 2) := by decide +kernel
theorem dL_counts_124 : decode cL_counts 124 = .ok (.ifCond .ne 7, 3) := by decide +kernel
theorem dL_counts_127 : decode cL_counts 127 = .ok (.dconst 1, 1) := by decide +kernel
theorem dL_counts_128 : decode cL_counts 128 = .ok (.goto 20, 3) := by decide +kernel
theorem dL_counts_131 : decode cL_counts 131 = .ok (.ldc2_w 90, 3) := by decide +kernel
theorem dL_counts_134 : decode cL_counts 134 = .ok (.iconst 1, 1) := by decide +kernel
theorem dL_counts_135 : decode cL_counts 135 = .ok (.aload 6, 2) := by decide +kernel
theorem dL_counts_137 : decode cL_counts 137 = .ok (.aload 8, 2) := by decide +kernel
theorem dL_counts_139 : decode cL_counts 139 = .ok (.invokestatic 61, 3) := by decide +kernel
theorem dL_counts_142 : decode cL_counts 142 = .ok (.i2d, 1) := by decide +kernel
theorem dL_counts_143 : decode cL_counts 143 = .ok (.dmul, 1) := by decide +kernel
theorem dL_counts_144 : decode cL_counts 144 = .ok (.iload 12, 2) := by decide +kernel
theorem dL_counts_146 : decode cL_counts 146 = .ok (.i2d, 1) := by decide +kernel
theorem dL_counts_147 : decode cL_counts 147 = .ok (.ddiv, 1) := by decide +kernel
theorem dL_counts_148 : decode cL_counts 148 = .ok (.dcmp .l, 1) := by decide +kernel
theorem dL_counts_149 : decode cL_counts 149 = .ok (.ifCond .eq 5, 3) := by decide +kernel
theorem dL_counts_152 : decode cL_counts 152 = .ok (.iconst 0, 1) := by decide +kernel
theorem dL_counts_153 : decode cL_counts 153 = .ok (.ireturn, 1) := by decide +kernel
theorem dL_counts_154 : decode cL_counts 154 = .ok (.aload_n 0, 1) := by decide +kernel
theorem dL_counts_155 : decode cL_counts 155 = .ok (.iconst 0, 1) := by decide +kernel
theorem dL_counts_156 : decode cL_counts 156 = .ok (.invokevirtual 92, 3) := by decide +kernel
theorem dL_counts_159 : decode cL_counts 159 = .ok (.iload_n 1, 1) := by decide +kernel
theorem dL_counts_160 : decode cL_counts 160 = .ok (.if_icmp .ne 138, 3) := by decide +kernel
theorem dL_counts_163 : decode cL_counts 163 = .ok (.aload_n 0, 1) := by decide +kernel
theorem dL_counts_164 : decode cL_counts 164 = .ok (.iconst 1, 1) := by decide +kernel
theorem dL_counts_165 : decode cL_counts 165 = .ok (.invokevirtual 92, 3) := by decide +kernel
theorem dL_counts_168 : decode cL_counts 168 = .ok (.aload 6, 2) := by decide +kernel
theorem dL_counts_170 : decode cL_counts 170 = .ok (.iconst 0, 1) := by decide +kernel
theorem dL_counts_171 : decode cL_counts 171 = .ok (.iaload, 1) := by decide +kernel
theorem dL_counts_172 : decode cL_counts 172 = .ok (.if_icmp .ne 126, 3) := by decide +kernel
theorem dL_counts_175 : decode cL_counts 175 = .ok (.aload_n 0, 1) := by decide +kernel
theorem dL_counts_176 : decode cL_counts 176 = .ok (.iconst 2, 1) := by decide +kernel
theorem dL_counts_177 : decode cL_counts 177 = .ok (.invokevirtual 92, 3) := by decide +kernel
theorem dL_counts_180 : decode cL_counts 180 = .ok (.aload 6, 2) := by decide +kernel
theorem dL_counts_182 : decode cL_counts 182 = .ok (.iconst 1, 1) := by decide +kernel
theorem dL_counts_183 : decode cL_counts 183 = .ok (.iaload, 1) := by decide +kernel
theorem dL_counts_184 : decode cL_counts 184 = .ok (.if_icmp .ne 114, 3) := by decide +kernel
theorem dL_counts_187 : decode cL_counts 187 = .ok (.aload_n 0, 1) := by decide +kernel
theorem dL_counts_188 : decode cL_counts 188 = .ok (.iconst 3, 1) := by decide +kernel
theorem dL_counts_189 : decode cL_counts 189 = .ok (.invokevirtual 92, 3) := by decide +kernel
theorem dL_counts_192 : decode cL_counts 192 = .ok (.iconst 1, 1) := by decide +kernel
theorem dL_counts_193 : decode cL_counts 193 = .ok (.aload 6, 2) := by decide +kernel
theorem dL_counts_195 : decode cL_counts 195 = .ok (.aload 8, 2) := by decide +kernel
theorem dL_counts_197 : decode cL_counts 197 = .ok (.invokestatic 61, 3) := by decide +kernel
theorem dL_counts_200 : decode cL_counts 200 = .ok (.if_icmp .ne 98, 3) := by decide +kernel
theorem dL_counts_203 : decode cL_counts 203 = .ok (.aload_n 0, 1) := by decide +kernel
theorem dL_counts_204 : decode cL_counts 204 = .ok (.iconst 4, 1) := by decide +kernel
theorem dL_counts_205 : decode cL_counts 205 = .ok (.invokevirtual 92, 3) := by decide +kernel
theorem dL_counts_208 : decode cL_counts 208 = .ok (.iconst 2, 1) := by decide +kernel
theorem dL_counts_209 : decode cL_counts 209 = .ok (.aload 6, 2) := by decide +kernel
theorem dL_counts_211 : decode cL_counts 211 = .ok (.aload 8, 2) := by decide +kernel
theorem dL_counts_213 : decode cL_counts 213 = .ok (.invokestatic 61, 3) := by decide +kernel
theorem dL_counts_216 : decode cL_counts 216 = .ok (.if_icmp .ne 82, 3) := by decide +kernel
theorem dL_counts_219 : decode cL_counts 219 = .ok (.aload_n 0, 1) := by decide +kernel
theorem dL_counts_220 : decode cL_counts 220 = .ok (.iconst 5, 1) := by decide +kernel
theorem dL_counts_221 : decode cL_counts 221 = .ok (.invokevirtual 92, 3) := by decide +kernel
theorem dL_counts_224 : decode cL_counts 224 = .ok (.iconst 3, 1) := by decide +kernel
theorem dL_counts_225 : decode cL_counts 225 = .ok (.aload 6, 2) := by decide +kernel
theorem dL_counts_227 : decode cL_counts 227 = .ok (.aload 8, 2) := by decide +kernel
theorem dL_counts_229 : decode cL_counts 229 = .ok (.invokestatic 61, 3) := by decide +kernel
theorem dL_counts_232 : decode cL_counts 232 = .ok (.if_icmp .ne 66, 3) := by decide +kernel
theorem dL_counts_235 : decode cL_counts 235 = .ok (.aload_n 0, 1) := by decide +kernel
theorem dL_counts_236 : decode cL_counts 236 = .ok (.bipush 6, 2) := by decide +kernel
theorem dL_counts_238 : decode cL_counts 238 = .ok (.invokevirtual 92, 3) := by decide +kernel
theorem dL_counts_241 : decode cL_counts 241 = .ok (.iconst 4, 1) := by decide +kernel
theorem dL_counts_242 : decode cL_counts 242 = .ok (.aload 6, 2) := by decide +kernel
theorem dL_counts_244 : decode cL_counts 244 = .ok (.aload 8, 2) := by decide +kernel
theorem dL_counts_246 : decode cL_counts 246 = .ok (.invokestatic 61, 3) := by decide +kernel
theorem dL_counts_249 : decode cL_counts 249 = .ok (.if_icmp .ne 49, 3) := by decide +kernel
theorem dL_counts_252 : decode cL_counts 252 = .ok (.aload_n 0, 1) := by decide +kernel
theorem dL_counts_253 : decode cL_counts 253 = .ok (.bipush 7, 2) := by decide +kernel
theorem dL_counts_255 : decode cL_counts 255 = .ok (.invokevirtual 92, 3) := by decide +kernel
theorem dL_counts_258 : decode cL_counts 258 = .ok (.iload_n 3, 1) := by decide +kernel
theorem dL_counts_259 : decode cL_counts 259 = .ok (.if_icmp .ne 39, 3) := by decide +kernel
theorem dL_counts_262 : decode cL_counts 262 = .ok (.aload_n 0, 1) := by decide +kernel
theorem dL_counts_263 : decode cL_counts 263 = .ok (.bipush 8, 2) := by decide +kernel
theorem dL_counts_265 : decode cL_counts 265 = .ok (.invokevirtual 92, 3) := by decide +kernel
theorem dL_counts_268 : decode cL_counts 268 = .ok (.iload_n 2, 1) := by decide +kernel
theorem dL_counts_269 : decode cL_counts 269 = .ok (.if_icmp .ne 29, 3) := by decide +kernel
theorem dL_counts_272 : decode cL_counts 272 = .ok (.aload_n 0, 1) := by decide +kernel
theorem dL_counts_273 : decode cL_counts 273 = .ok (.bipush 9, 2) := by decide +kernel
theorem dL_counts_275 : decode cL_counts 275 = .ok (.invokevirtual 92, 3) := by decide +kernel
theorem dL_counts_278 : decode cL_counts 278 = .ok (.iload 10, 2) := by decide +kernel
theorem dL_counts_280 : decode cL_counts 280 = .ok (.if_icmp .ne 18, 3) := by decide +kernel
theorem dL_counts_283 : decode cL_counts 283 = .ok (.aload_n 0, 1) := by decide +kernel
theorem dL_counts_284 : decode cL_counts 284 = .ok (.bipush 11, 2) := by decide +kernel
theorem dL_counts_286 : decode cL_counts 286 = .ok (.invokevirtual 92, 3) := by decide +kernel
theorem dL_counts_289 : decode cL_counts 289 = .ok (.iload 11, 2) := by decide +kernel
theorem dL_counts_291 : decode cL_counts 291 = .ok (.if_icmp .ne 7, 3) := by decide +kernel
theorem dL_counts_294 : decode cL_counts 294 = .ok (.iconst 1, 1) := by decide +kernel
theorem dL_counts_295 : decode cL_counts 295 = .ok (.goto 4, 3) := by decide +kernel
theorem dL_counts_298 : decode cL_counts 298 = .ok (.iconst 0, 1) := by decide +kernel
theorem dL_counts_299 : decode cL_counts 299 = .ok (.ireturn, 1) := by decide +kernel
theorem pd_L_counts : (parseMethodDescriptor yL_counts.desc).map (fun d => d.parameters.length) = some 10 := by decide +kernel
def w_L_counts (zz : Nat → Nat) (a0 : Nat) (a1 : Int) (a2 : Int) (a3 : Int) (a4 : Nat) (a5 : Nat) (a6 : Nat) (a7 : Nat) (a8 : Nat) (a9 : Nat) (h : AH) (Q : Int → AH → Prop) : Prop := ∃ I_9 : Nat → Int → Int → Int → AH → Prop, (∃ n, I_9 n (0 : Int) (0 : Int) (0 : Int) h) ∧ ∀ (n_9 : Nat) (x10_9 : Int) (x11_9 : Int) (x12_9 : Int) (h_9 : AH), I_9 n_9 x10_9 x11_9 x12_9 h_9 → (okI h_9 a6 (0 : Int) ∧ (((haI h_9 a6 (0 : Int)) ≤ x12_9) → ∃ I_78 : Nat → Int → AH → Prop, (∃ n, I_78 n (0 : Int) h_9) ∧ ∀ (n_78 : Nat) (x12_78 : Int) (h_78 : AH), I_78 n_78 x12_78 h_78 → ((((8 : Int) ≤ x12_78) → okI h_78 a6 (0 : Int) ∧ okI h_78 a6 (1 : Int) ∧ inR ((haI h_78 a6 (0 : Int)) + (haI h_78 a6 (1 : Int))) ∧ ∀ x12_116 : Int, x12_116 = ((haI h_78 a6 (0 : Int)) + (haI h_78 a6 (1 : Int))) → okA h_78 a0 6 ∧ w_X6_likeness zz a0 h_78 (fun (r119 : UInt64) (h119 : AH) => jn (fun (t1_148 : UInt64) (h_148 : AH) => ((((Op.cmpValue (FP.dcmp r119 t1_148) CmpOp.l).toInt) = 0) → okA h_148 a0 6 ∧ w_X6_count zz a0 (0 : Int) h_148 (fun (r156 : Int) (h156 : AH) => jn (fun (t0_299 : Int) (h_299 : AH) => (t0_299 = 0 ∨ t0_299 = 1) ∧ Q t0_299 h_299) (fun k_299 : Int → AH → Prop => jn (fun  (h_298 : AH) => k_299 (0 : Int) h_298) (fun k_298 : AH → Prop => ((¬ r156 = a1) → k_298  h156) ∧ ((r156 = a1) → okA h156 a0 6 ∧ w_X6_count zz a0 (1 : Int) h156 (fun (r165 : Int) (h165 : AH) => okI h165 a6 (0 : Int) ∧ ((¬ r165 = (haI h165 a6 (0 : Int))) → k_298  h165) ∧ ((r165 = (haI h165 a6 (0 : Int))) → okA h165 a0 6 ∧ w_X6_count zz a0 (2 : Int) h165 (fun (r177 : Int) (h177 : AH) => okI h177 a6 (1 : Int) ∧ ((¬ r177 = (haI h177 a6 (1 : Int))) → k_298  h177) ∧ ((r177 = (haI h177 a6 (1 : Int))) → okA h177 a0 6 ∧ w_X6_count zz a0 (3 : Int) h177 (fun (r189 : Int) (h189 : AH) => w_L_many zz (1 : Int) a6 a8 h189 (fun (r197 : Int) (h197 : AH) => ((¬ r189 = r197) → k_298  h197) ∧ ((r189 = r197) → okA h197 a0 6 ∧ w_X6_count zz a0 (4 : Int) h197 (fun (r205 : Int) (h205 : AH) => w_L_many zz (2 : Int) a6 a8 h205 (fun (r213 : Int) (h213 : AH) => ((¬ r205 = r213) → k_298  h213) ∧ ((r205 = r213) → okA h213 a0 6 ∧ w_X6_count zz a0 (5 : Int) h213 (fun (r221 : Int) (h221 : AH) => w_L_many zz (3 : Int) a6 a8 h221 (fun (r229 : Int) (h229 : AH) => ((¬ r221 = r229) → k_298  h229) ∧ ((r221 = r229) → okA h229 a0 6 ∧ w_X6_count zz a0 (6 : Int) h229 (fun (r238 : Int) (h238 : AH) => w_L_many zz (4 : Int) a6 a8 h238 (fun (r246 : Int) (h246 : AH) => ((¬ r238 = r246) → k_298  h246) ∧ ((r238 = r246) → okA h246 a0 6 ∧ w_X6_count zz a0 (7 : Int) h246 (fun (r255 : Int) (h255 : AH) => ((¬ r255 = a3) → k_298  h255) ∧ ((r255 = a3) → okA h255 a0 6 ∧ w_X6_count zz a0 (8 : Int) h255 (fun (r265 : Int) (h265 : AH) => ((¬ r265 = a2) → k_298  h265) ∧ ((r265 = a2) → okA h265 a0 6 ∧ w_X6_count zz a0 (9 : Int) h265 (fun (r275 : Int) (h275 : AH) => ((¬ r275 = x10_9) → k_298  h275) ∧ ((r275 = x10_9) → okA h275 a0 6 ∧ w_X6_count zz a0 (11 : Int) h275 (fun (r286 : Int) (h286 : AH) => ((¬ r286 = x11_9) → k_298  h286) ∧ ((r286 = x11_9) → k_299 (1 : Int) h286)) (fun _ _ => False))) (fun _ _ => False))) (fun _ _ => False))) (fun _ _ => False)))) (fun _ _ => False)))) (fun _ _ => False)))) (fun _ _ => False)))) (fun _ _ => False))) (fun _ _ => False))) (fun _ _ => False))))) (fun _ _ => False)) ∧ ((¬ (((Op.cmpValue (FP.dcmp r119 t1_148) CmpOp.l).toInt) = 0)) → ((0 : Int) = 0 ∨ (0 : Int) = 1) ∧ Q (0 : Int) h_148)) (fun k_148 : UInt64 → AH → Prop => ((¬ x12_116 = 0) → w_L_many zz (1 : Int) a6 a8 h119 (fun (r139 : Int) (h139 : AH) => vf_n64 (FP.dmul (4611686018427387904 : UInt64) (FP.i2d (Int32.ofInt r139))) ∧ vf_n64 (FP.ddiv (FP.dmul (4611686018427387904 : UInt64) (FP.i2d (Int32.ofInt r139))) (FP.i2d (Int32.ofInt x12_116))) ∧ k_148 (FP.ddiv (FP.dmul (4611686018427387904 : UInt64) (FP.i2d (Int32.ofInt r139))) (FP.i2d (Int32.ofInt x12_116))) h139)) ∧ ((x12_116 = 0) → k_148 FP.dconst1 h119)))) ∧ ((¬ ((8 : Int) ≤ x12_78)) → okA h_78 a0 6 ∧ w_X6_setting zz a0 x12_78 h_78 (fun (r88 : Int) (h88 : AH) => okI h88 a7 x12_78 ∧ ((r88 = (haI h88 a7 x12_78)) → inR (x12_78 + 1) ∧ ∀ x12_101 : Int, x12_101 = (x12_78 + 1) → ∃ m, m < n_78 ∧ I_78 m x12_101 h88) ∧ ((¬ (r88 = (haI h88 a7 x12_78))) → ((0 : Int) = 0 ∨ (0 : Int) = 1) ∧ Q (0 : Int) h88)) (fun _ _ => False)))) ∧ ((¬ ((haI h_9 a6 (0 : Int)) ≤ x12_9)) → inR ((2 : Int) * x12_9) ∧ okI h_9 a8 ((2 : Int) * x12_9) ∧ jn (fun (t1_52 : Int) (h_52 : AH) => inR (x10_9 + t1_52) ∧ ∀ x10_53 : Int, x10_53 = (x10_9 + t1_52) → inR ((2 : Int) * x12_9) ∧ inR (((2 : Int) * x12_9) + (1 : Int)) ∧ okI h_52 a9 (((2 : Int) * x12_9) + (1 : Int)) ∧ inR (x11_9 + (haI h_52 a9 (((2 : Int) * x12_9) + (1 : Int)))) ∧ ∀ x11_67 : Int, x11_67 = (x11_9 + (haI h_52 a9 (((2 : Int) * x12_9) + (1 : Int)))) → inR (x12_9 + 1) ∧ ∀ x12_69 : Int, x12_69 = (x12_9 + 1) → ∃ m, m < n_9 ∧ I_9 m x10_53 x11_67 x12_69 h_52) (fun k_52 : Int → AH → Prop => ((0 ≤ (haI h_9 a8 ((2 : Int) * x12_9))) → inR ((2 : Int) * x12_9) ∧ okI h_9 a8 ((2 : Int) * x12_9) ∧ w_L_far zz x12_9 (haI h_9 a8 ((2 : Int) * x12_9)) a4 a5 a7 h_9 (fun (r49 : Int) (h49 : AH) => k_52 r49 h49)) ∧ ((¬ (0 ≤ (haI h_9 a8 ((2 : Int) * x12_9)))) → k_52 (0 : Int) h_9))))
set_option maxRecDepth 100000 in
set_option maxHeartbeats 4000000 in
theorem met_L_counts (G : GG) (l : Launch) : ∀ (As : List Value) (a0 : Nat) (a1 : Int) (a2 : Int) (a3 : Int) (a4 : Nat) (a5 : Nat) (a6 : Nat) (a7 : Nat) (a8 : Nat) (a9 : Nat) (h : AH) (Q : Int → AH → Prop), As.map ab = List.map some ([vR a0, vI a1, vI a2, vI a3, vR a4, vR a5, vR a6, vR a7, vR a8, vR a9] : List AV) → w_L_counts G.2.2 a0 a1 a2 a3 a4 a5 a6 a7 a8 a9 h Q → Met l yL_counts (.code yL_counts cL_counts 13 (some .boolean) :: xTb) ({ frames := 7, cells := 0, slots := 0, locals := 157 } : Room) (PcA G As h) (QG G (oI Q)) 0 0 (frA G) := by
  intro As a0 a1 a2 a3 a4 a5 a6 a7 a8 a9 h Q hA hw
  refine met_of hA (by decide) (Nat.le_of_ble_eq_true rfl) (fun p e s m args below meth c C hml hr hnm => ?_)
  unfold w_L_counts at hw
  refine aw_iconst (pc := 0) C dL_counts_0 (i := (0 : Int)) (by decide) ?_
  refine aw_istore (pc := 1) C dL_counts_1 (by rw [hml]; decide) ?_
  refine aw_iconst (pc := 3) C dL_counts_3 (i := (0 : Int)) (by decide) ?_
  refine aw_istore (pc := 4) C dL_counts_4 (by rw [hml]; decide) ?_
  refine aw_iconst (pc := 6) C dL_counts_6 (i := (0 : Int)) (by decide) ?_
  refine aw_istore (pc := 7) C dL_counts_7 (by rw [hml]; decide) ?_
  obtain ⟨I_9, ⟨n9, hi9⟩, hst9⟩ := hw
  have L_9 : ∀ (n_9 : Nat) (x10_9 : Int) (x11_9 : Int) (x12_9 : Int) (h_9 : AH), I_9 n_9 x10_9 x11_9 x12_9 h_9 → AW G p l e ({ frames := 7, cells := 0, slots := 0, locals := 157 } : Room) s m args below meth c 0 0 (MQ below (QG G (oI Q)) args s 0 0 (frA G)) 9 (eOf [(0, vR a0), (1, vI a1), (2, vI a2), (3, vI a3), (4, vR a4), (5, vR a5), (6, vR a6), (7, vR a7), (8, vR a8), (9, vR a9), (10, vI x10_9), (11, vI x11_9), (12, vI x12_9)]) [] h_9 := by
    intro n_9
    induction n_9 using Nat.strongRecOn with
    | _ n_9 ih_9 =>
    intro x10_9 x11_9 x12_9 h_9 hi9
    have hw := hst9 n_9 x10_9 x11_9 x12_9 h_9 hi9
    refine aw_iload (pc := 9) C dL_counts_9 rfl ?_
    refine aw_aload (pc := 11) C dL_counts_11 rfl ?_
    refine aw_iconst (pc := 13) C dL_counts_13 (i := (0 : Int)) (by decide) ?_
    obtain ⟨⟨k9, hp9⟩, hw⟩ := hw
    refine aw_iald (pc := 14) C dL_counts_14 hp9 ?_
    refine aw_icmp_ge (pc := 15) (tgt := 75) C dL_counts_15 (by decide) (fun hc9 => ?_) (fun hc9 => ?_)
    · have hw := hw.1 hc9
      refine aw_iconst (pc := 75) C dL_counts_75 (i := (0 : Int)) (by decide) ?_
      refine aw_istore (pc := 76) C dL_counts_76 (by rw [hml]; decide) ?_
      obtain ⟨I_78, ⟨n9, hi9⟩, hst9⟩ := hw
      have L_78 : ∀ (n_78 : Nat) (x12_78 : Int) (h_78 : AH), I_78 n_78 x12_78 h_78 → AW G p l e ({ frames := 7, cells := 0, slots := 0, locals := 157 } : Room) s m args below meth c 0 0 (MQ below (QG G (oI Q)) args s 0 0 (frA G)) 78 (eOf [(0, vR a0), (1, vI a1), (2, vI a2), (3, vI a3), (6, vR a6), (7, vR a7), (8, vR a8), (10, vI x10_9), (11, vI x11_9), (12, vI x12_78)]) [] h_78 := by
        intro n_78
        induction n_78 using Nat.strongRecOn with
        | _ n_78 ih_78 =>
        intro x12_78 h_78 hi9
        have hw := hst9 n_78 x12_78 h_78 hi9
        refine aw_iload (pc := 78) C dL_counts_78 rfl ?_
        refine aw_bipush (pc := 80) C dL_counts_80 (i := (8 : Int)) (by decide) ?_
        refine aw_icmp_ge (pc := 82) (tgt := 107) C dL_counts_82 (by decide) (fun hc9 => ?_) (fun hc9 => ?_)
        · have hw := hw.1 hc9
          refine aw_aload (pc := 107) C dL_counts_107 rfl ?_
          refine aw_iconst (pc := 109) C dL_counts_109 (i := (0 : Int)) (by decide) ?_
          obtain ⟨⟨k9, hp9⟩, hw⟩ := hw
          refine aw_iald (pc := 110) C dL_counts_110 hp9 ?_
          refine aw_aload (pc := 111) C dL_counts_111 rfl ?_
          refine aw_iconst (pc := 113) C dL_counts_113 (i := (1 : Int)) (by decide) ?_
          obtain ⟨⟨k9, hp9⟩, hw⟩ := hw
          refine aw_iald (pc := 114) C dL_counts_114 hp9 ?_
          obtain ⟨hp9, hw⟩ := hw
          refine aw_iadd (pc := 115) C dL_counts_115 hp9 ?_
          refine aw_nmI (fun x12_116 e9 => ?_)
          have hw := hw x12_116 e9
          refine aw_istore (pc := 116) C dL_counts_116 (by rw [hml]; decide) ?_
          refine aw_aload_n (pc := 118) C dL_counts_118 rfl rfl ?_
          obtain ⟨hp9, hw⟩ := hw
          refine aw_callV (pc := 119) (as := []) C ci6 (fun As hA => met_X6_likeness G l As a0 _ _ hA hw) tw632 tw633 tw634 tw1 tw635 ⟨rfl, rfl⟩ ⟨rfl, by decide, by decide, pd_X6_likeness⟩ ⟨Nat.le_of_ble_eq_true rfl, Nat.le_of_ble_eq_true rfl⟩ ⟨(Nat.le_of_ble_eq_true rfl), (Nat.le_of_ble_eq_true rfl)⟩ (Nat.le_of_ble_eq_true rfl) dL_counts_119 rfl hp9 (fun v9 h119 hq9 => ?_)
          obtain ⟨r119, rfl, hw⟩ := hq9
          refine aw_iload (pc := 122) C dL_counts_122 rfl ?_
          obtain ⟨k_148, hk_148, hw⟩ := jn_out hw
          have J_148 : ∀ (t1_148 : UInt64) (h_148 : AH), k_148 t1_148 h_148 → AW G p l e ({ frames := 7, cells := 0, slots := 0, locals := 157 } : Room) s m args below meth c 0 0 (MQ below (QG G (oI Q)) args s 0 0 (frA G)) 148 (eOf [(0, vR a0), (1, vI a1), (2, vI a2), (3, vI a3), (6, vR a6), (8, vR a8), (10, vI x10_9), (11, vI x11_9)]) [vD t1_148, vD r119] h_148 := by
            intro t1_148 h_148 hw
            rw [hk_148] at hw
            refine aw_dcmp (pc := 148) C dL_counts_148  ?_
            refine aw_if_eq (pc := 149) (tgt := 154) C dL_counts_149 (by decide) (fun hc9 => ?_) (fun hc9 => ?_)
            · have hw := hw.1 hc9
              refine aw_aload_n (pc := 154) C dL_counts_154 rfl rfl ?_
              refine aw_iconst (pc := 155) C dL_counts_155 (i := (0 : Int)) (by decide) ?_
              obtain ⟨hp9, hw⟩ := hw
              refine aw_callV (pc := 156) (as := [vI (0 : Int)]) C ci6 (fun As hA => met_X6_count G l As a0 (0 : Int) _ _ hA hw) tw243 tw244 tw245 tw1 tw246 ⟨rfl, rfl⟩ ⟨rfl, by decide, by decide, pd_X6_count⟩ ⟨Nat.le_of_ble_eq_true rfl, Nat.le_of_ble_eq_true rfl⟩ ⟨(Nat.le_of_ble_eq_true rfl), (Nat.le_of_ble_eq_true rfl)⟩ (Nat.le_of_ble_eq_true rfl) dL_counts_156 rfl hp9 (fun v9 h156 hq9 => ?_)
              obtain ⟨r156, rfl, hw⟩ := hq9
              refine aw_iload_n (pc := 159) C dL_counts_159 rfl rfl ?_
              obtain ⟨k_299, hk_299, hw⟩ := jn_out hw
              have J_299 : ∀ (t0_299 : Int) (h_299 : AH), k_299 t0_299 h_299 → AW G p l e ({ frames := 7, cells := 0, slots := 0, locals := 157 } : Room) s m args below meth c 0 0 (MQ below (QG G (oI Q)) args s 0 0 (frA G)) 299 (eOf []) [vI t0_299] h_299 := by
                intro t0_299 h_299 hw
                rw [hk_299] at hw
                obtain ⟨hp9, hw⟩ := hw
                exact aw_zret (pc := 299) C hr dL_counts_299 ⟨Nat.le_of_ble_eq_true rfl, Nat.le_of_ble_eq_true rfl⟩ hp9 ⟨_, rfl, hw⟩
              obtain ⟨k_298, hk_298, hw⟩ := jn_out hw
              have J_298 : ∀  (h_298 : AH), k_298  h_298 → AW G p l e ({ frames := 7, cells := 0, slots := 0, locals := 157 } : Room) s m args below meth c 0 0 (MQ below (QG G (oI Q)) args s 0 0 (frA G)) 298 (eOf []) [] h_298 := by
                intro  h_298 hw
                rw [hk_298] at hw
                refine aw_iconst (pc := 298) C dL_counts_298 (i := (0 : Int)) (by decide) ?_
                refine aw_sub [] trivial ?_
                exact J_299 _ _ hw
              refine aw_icmp_ne (pc := 160) (tgt := 298) C dL_counts_160 (by decide) (fun hc9 => ?_) (fun hc9 => ?_)
              · have hw := hw.1 hc9
                refine aw_sub [] trivial ?_
                exact J_298  _ hw
              · have hw := hw.2 hc9
                refine aw_aload_n (pc := 163) C dL_counts_163 rfl rfl ?_
                refine aw_iconst (pc := 164) C dL_counts_164 (i := (1 : Int)) (by decide) ?_
                obtain ⟨hp9, hw⟩ := hw
                refine aw_callV (pc := 165) (as := [vI (1 : Int)]) C ci6 (fun As hA => met_X6_count G l As a0 (1 : Int) _ _ hA hw) tw243 tw244 tw245 tw1 tw246 ⟨rfl, rfl⟩ ⟨rfl, by decide, by decide, pd_X6_count⟩ ⟨Nat.le_of_ble_eq_true rfl, Nat.le_of_ble_eq_true rfl⟩ ⟨(Nat.le_of_ble_eq_true rfl), (Nat.le_of_ble_eq_true rfl)⟩ (Nat.le_of_ble_eq_true rfl) dL_counts_165 rfl hp9 (fun v9 h165 hq9 => ?_)
                obtain ⟨r165, rfl, hw⟩ := hq9
                refine aw_aload (pc := 168) C dL_counts_168 rfl ?_
                refine aw_iconst (pc := 170) C dL_counts_170 (i := (0 : Int)) (by decide) ?_
                obtain ⟨⟨k9, hp9⟩, hw⟩ := hw
                refine aw_iald (pc := 171) C dL_counts_171 hp9 ?_
                refine aw_icmp_ne (pc := 172) (tgt := 298) C dL_counts_172 (by decide) (fun hc9 => ?_) (fun hc9 => ?_)
                · have hw := hw.1 hc9
                  refine aw_sub [] trivial ?_
                  exact J_298  _ hw
                · have hw := hw.2 hc9
                  refine aw_aload_n (pc := 175) C dL_counts_175 rfl rfl ?_
                  refine aw_iconst (pc := 176) C dL_counts_176 (i := (2 : Int)) (by decide) ?_
                  obtain ⟨hp9, hw⟩ := hw
                  refine aw_callV (pc := 177) (as := [vI (2 : Int)]) C ci6 (fun As hA => met_X6_count G l As a0 (2 : Int) _ _ hA hw) tw243 tw244 tw245 tw1 tw246 ⟨rfl, rfl⟩ ⟨rfl, by decide, by decide, pd_X6_count⟩ ⟨Nat.le_of_ble_eq_true rfl, Nat.le_of_ble_eq_true rfl⟩ ⟨(Nat.le_of_ble_eq_true rfl), (Nat.le_of_ble_eq_true rfl)⟩ (Nat.le_of_ble_eq_true rfl) dL_counts_177 rfl hp9 (fun v9 h177 hq9 => ?_)
                  obtain ⟨r177, rfl, hw⟩ := hq9
                  refine aw_aload (pc := 180) C dL_counts_180 rfl ?_
                  refine aw_iconst (pc := 182) C dL_counts_182 (i := (1 : Int)) (by decide) ?_
                  obtain ⟨⟨k9, hp9⟩, hw⟩ := hw
                  refine aw_iald (pc := 183) C dL_counts_183 hp9 ?_
                  refine aw_icmp_ne (pc := 184) (tgt := 298) C dL_counts_184 (by decide) (fun hc9 => ?_) (fun hc9 => ?_)
                  · have hw := hw.1 hc9
                    refine aw_sub [] trivial ?_
                    exact J_298  _ hw
                  · have hw := hw.2 hc9
                    refine aw_aload_n (pc := 187) C dL_counts_187 rfl rfl ?_
                    refine aw_iconst (pc := 188) C dL_counts_188 (i := (3 : Int)) (by decide) ?_
                    obtain ⟨hp9, hw⟩ := hw
                    refine aw_callV (pc := 189) (as := [vI (3 : Int)]) C ci6 (fun As hA => met_X6_count G l As a0 (3 : Int) _ _ hA hw) tw243 tw244 tw245 tw1 tw246 ⟨rfl, rfl⟩ ⟨rfl, by decide, by decide, pd_X6_count⟩ ⟨Nat.le_of_ble_eq_true rfl, Nat.le_of_ble_eq_true rfl⟩ ⟨(Nat.le_of_ble_eq_true rfl), (Nat.le_of_ble_eq_true rfl)⟩ (Nat.le_of_ble_eq_true rfl) dL_counts_189 rfl hp9 (fun v9 h189 hq9 => ?_)
                    obtain ⟨r189, rfl, hw⟩ := hq9
                    refine aw_iconst (pc := 192) C dL_counts_192 (i := (1 : Int)) (by decide) ?_
                    refine aw_aload (pc := 193) C dL_counts_193 rfl ?_
                    refine aw_aload (pc := 195) C dL_counts_195 rfl ?_
                    refine aw_callS (pc := 197) (as := [vI (1 : Int), vR a6, vR a8]) C (fun As hA => met_L_many G l As (1 : Int) a6 a8 _ _ hA hw) tw588 tw589 tw0 tw590 ⟨rfl, rfl⟩ ⟨by decide, by decide, pd_L_many⟩ ⟨Nat.le_of_ble_eq_true rfl, Nat.le_of_ble_eq_true rfl⟩ ⟨(Nat.le_of_ble_eq_true rfl), (Nat.le_of_ble_eq_true rfl)⟩ (Nat.le_of_ble_eq_true rfl) dL_counts_197 rfl (fun v9 h197 hq9 => ?_)
                    obtain ⟨r197, rfl, hw⟩ := hq9
                    refine aw_icmp_ne (pc := 200) (tgt := 298) C dL_counts_200 (by decide) (fun hc9 => ?_) (fun hc9 => ?_)
                    · have hw := hw.1 hc9
                      refine aw_sub [] trivial ?_
                      exact J_298  _ hw
                    · have hw := hw.2 hc9
                      refine aw_aload_n (pc := 203) C dL_counts_203 rfl rfl ?_
                      refine aw_iconst (pc := 204) C dL_counts_204 (i := (4 : Int)) (by decide) ?_
                      obtain ⟨hp9, hw⟩ := hw
                      refine aw_callV (pc := 205) (as := [vI (4 : Int)]) C ci6 (fun As hA => met_X6_count G l As a0 (4 : Int) _ _ hA hw) tw243 tw244 tw245 tw1 tw246 ⟨rfl, rfl⟩ ⟨rfl, by decide, by decide, pd_X6_count⟩ ⟨Nat.le_of_ble_eq_true rfl, Nat.le_of_ble_eq_true rfl⟩ ⟨(Nat.le_of_ble_eq_true rfl), (Nat.le_of_ble_eq_true rfl)⟩ (Nat.le_of_ble_eq_true rfl) dL_counts_205 rfl hp9 (fun v9 h205 hq9 => ?_)
                      obtain ⟨r205, rfl, hw⟩ := hq9
                      refine aw_iconst (pc := 208) C dL_counts_208 (i := (2 : Int)) (by decide) ?_
                      refine aw_aload (pc := 209) C dL_counts_209 rfl ?_
                      refine aw_aload (pc := 211) C dL_counts_211 rfl ?_
                      refine aw_callS (pc := 213) (as := [vI (2 : Int), vR a6, vR a8]) C (fun As hA => met_L_many G l As (2 : Int) a6 a8 _ _ hA hw) tw588 tw589 tw0 tw590 ⟨rfl, rfl⟩ ⟨by decide, by decide, pd_L_many⟩ ⟨Nat.le_of_ble_eq_true rfl, Nat.le_of_ble_eq_true rfl⟩ ⟨(Nat.le_of_ble_eq_true rfl), (Nat.le_of_ble_eq_true rfl)⟩ (Nat.le_of_ble_eq_true rfl) dL_counts_213 rfl (fun v9 h213 hq9 => ?_)
                      obtain ⟨r213, rfl, hw⟩ := hq9
                      refine aw_icmp_ne (pc := 216) (tgt := 298) C dL_counts_216 (by decide) (fun hc9 => ?_) (fun hc9 => ?_)
                      · have hw := hw.1 hc9
                        refine aw_sub [] trivial ?_
                        exact J_298  _ hw
                      · have hw := hw.2 hc9
                        refine aw_aload_n (pc := 219) C dL_counts_219 rfl rfl ?_
                        refine aw_iconst (pc := 220) C dL_counts_220 (i := (5 : Int)) (by decide) ?_
                        obtain ⟨hp9, hw⟩ := hw
                        refine aw_callV (pc := 221) (as := [vI (5 : Int)]) C ci6 (fun As hA => met_X6_count G l As a0 (5 : Int) _ _ hA hw) tw243 tw244 tw245 tw1 tw246 ⟨rfl, rfl⟩ ⟨rfl, by decide, by decide, pd_X6_count⟩ ⟨Nat.le_of_ble_eq_true rfl, Nat.le_of_ble_eq_true rfl⟩ ⟨(Nat.le_of_ble_eq_true rfl), (Nat.le_of_ble_eq_true rfl)⟩ (Nat.le_of_ble_eq_true rfl) dL_counts_221 rfl hp9 (fun v9 h221 hq9 => ?_)
                        obtain ⟨r221, rfl, hw⟩ := hq9
                        refine aw_iconst (pc := 224) C dL_counts_224 (i := (3 : Int)) (by decide) ?_
                        refine aw_aload (pc := 225) C dL_counts_225 rfl ?_
                        refine aw_aload (pc := 227) C dL_counts_227 rfl ?_
                        refine aw_callS (pc := 229) (as := [vI (3 : Int), vR a6, vR a8]) C (fun As hA => met_L_many G l As (3 : Int) a6 a8 _ _ hA hw) tw588 tw589 tw0 tw590 ⟨rfl, rfl⟩ ⟨by decide, by decide, pd_L_many⟩ ⟨Nat.le_of_ble_eq_true rfl, Nat.le_of_ble_eq_true rfl⟩ ⟨(Nat.le_of_ble_eq_true rfl), (Nat.le_of_ble_eq_true rfl)⟩ (Nat.le_of_ble_eq_true rfl) dL_counts_229 rfl (fun v9 h229 hq9 => ?_)
                        obtain ⟨r229, rfl, hw⟩ := hq9
                        refine aw_icmp_ne (pc := 232) (tgt := 298) C dL_counts_232 (by decide) (fun hc9 => ?_) (fun hc9 => ?_)
                        · have hw := hw.1 hc9
                          refine aw_sub [] trivial ?_
                          exact J_298  _ hw
                        · have hw := hw.2 hc9
                          refine aw_aload_n (pc := 235) C dL_counts_235 rfl rfl ?_
                          refine aw_bipush (pc := 236) C dL_counts_236 (i := (6 : Int)) (by decide) ?_
                          obtain ⟨hp9, hw⟩ := hw
                          refine aw_callV (pc := 238) (as := [vI (6 : Int)]) C ci6 (fun As hA => met_X6_count G l As a0 (6 : Int) _ _ hA hw) tw243 tw244 tw245 tw1 tw246 ⟨rfl, rfl⟩ ⟨rfl, by decide, by decide, pd_X6_count⟩ ⟨Nat.le_of_ble_eq_true rfl, Nat.le_of_ble_eq_true rfl⟩ ⟨(Nat.le_of_ble_eq_true rfl), (Nat.le_of_ble_eq_true rfl)⟩ (Nat.le_of_ble_eq_true rfl) dL_counts_238 rfl hp9 (fun v9 h238 hq9 => ?_)
                          obtain ⟨r238, rfl, hw⟩ := hq9
                          refine aw_iconst (pc := 241) C dL_counts_241 (i := (4 : Int)) (by decide) ?_
                          refine aw_aload (pc := 242) C dL_counts_242 rfl ?_
                          refine aw_aload (pc := 244) C dL_counts_244 rfl ?_
                          refine aw_callS (pc := 246) (as := [vI (4 : Int), vR a6, vR a8]) C (fun As hA => met_L_many G l As (4 : Int) a6 a8 _ _ hA hw) tw588 tw589 tw0 tw590 ⟨rfl, rfl⟩ ⟨by decide, by decide, pd_L_many⟩ ⟨Nat.le_of_ble_eq_true rfl, Nat.le_of_ble_eq_true rfl⟩ ⟨(Nat.le_of_ble_eq_true rfl), (Nat.le_of_ble_eq_true rfl)⟩ (Nat.le_of_ble_eq_true rfl) dL_counts_246 rfl (fun v9 h246 hq9 => ?_)
                          obtain ⟨r246, rfl, hw⟩ := hq9
                          refine aw_icmp_ne (pc := 249) (tgt := 298) C dL_counts_249 (by decide) (fun hc9 => ?_) (fun hc9 => ?_)
                          · have hw := hw.1 hc9
                            refine aw_sub [] trivial ?_
                            exact J_298  _ hw
                          · have hw := hw.2 hc9
                            refine aw_aload_n (pc := 252) C dL_counts_252 rfl rfl ?_
                            refine aw_bipush (pc := 253) C dL_counts_253 (i := (7 : Int)) (by decide) ?_
                            obtain ⟨hp9, hw⟩ := hw
                            refine aw_callV (pc := 255) (as := [vI (7 : Int)]) C ci6 (fun As hA => met_X6_count G l As a0 (7 : Int) _ _ hA hw) tw243 tw244 tw245 tw1 tw246 ⟨rfl, rfl⟩ ⟨rfl, by decide, by decide, pd_X6_count⟩ ⟨Nat.le_of_ble_eq_true rfl, Nat.le_of_ble_eq_true rfl⟩ ⟨(Nat.le_of_ble_eq_true rfl), (Nat.le_of_ble_eq_true rfl)⟩ (Nat.le_of_ble_eq_true rfl) dL_counts_255 rfl hp9 (fun v9 h255 hq9 => ?_)
                            obtain ⟨r255, rfl, hw⟩ := hq9
                            refine aw_iload_n (pc := 258) C dL_counts_258 rfl rfl ?_
                            refine aw_icmp_ne (pc := 259) (tgt := 298) C dL_counts_259 (by decide) (fun hc9 => ?_) (fun hc9 => ?_)
                            · have hw := hw.1 hc9
                              refine aw_sub [] trivial ?_
                              exact J_298  _ hw
                            · have hw := hw.2 hc9
                              refine aw_aload_n (pc := 262) C dL_counts_262 rfl rfl ?_
                              refine aw_bipush (pc := 263) C dL_counts_263 (i := (8 : Int)) (by decide) ?_
                              obtain ⟨hp9, hw⟩ := hw
                              refine aw_callV (pc := 265) (as := [vI (8 : Int)]) C ci6 (fun As hA => met_X6_count G l As a0 (8 : Int) _ _ hA hw) tw243 tw244 tw245 tw1 tw246 ⟨rfl, rfl⟩ ⟨rfl, by decide, by decide, pd_X6_count⟩ ⟨Nat.le_of_ble_eq_true rfl, Nat.le_of_ble_eq_true rfl⟩ ⟨(Nat.le_of_ble_eq_true rfl), (Nat.le_of_ble_eq_true rfl)⟩ (Nat.le_of_ble_eq_true rfl) dL_counts_265 rfl hp9 (fun v9 h265 hq9 => ?_)
                              obtain ⟨r265, rfl, hw⟩ := hq9
                              refine aw_iload_n (pc := 268) C dL_counts_268 rfl rfl ?_
                              refine aw_icmp_ne (pc := 269) (tgt := 298) C dL_counts_269 (by decide) (fun hc9 => ?_) (fun hc9 => ?_)
                              · have hw := hw.1 hc9
                                refine aw_sub [] trivial ?_
                                exact J_298  _ hw
                              · have hw := hw.2 hc9
                                refine aw_aload_n (pc := 272) C dL_counts_272 rfl rfl ?_
                                refine aw_bipush (pc := 273) C dL_counts_273 (i := (9 : Int)) (by decide) ?_
                                obtain ⟨hp9, hw⟩ := hw
                                refine aw_callV (pc := 275) (as := [vI (9 : Int)]) C ci6 (fun As hA => met_X6_count G l As a0 (9 : Int) _ _ hA hw) tw243 tw244 tw245 tw1 tw246 ⟨rfl, rfl⟩ ⟨rfl, by decide, by decide, pd_X6_count⟩ ⟨Nat.le_of_ble_eq_true rfl, Nat.le_of_ble_eq_true rfl⟩ ⟨(Nat.le_of_ble_eq_true rfl), (Nat.le_of_ble_eq_true rfl)⟩ (Nat.le_of_ble_eq_true rfl) dL_counts_275 rfl hp9 (fun v9 h275 hq9 => ?_)
                                obtain ⟨r275, rfl, hw⟩ := hq9
                                refine aw_iload (pc := 278) C dL_counts_278 rfl ?_
                                refine aw_icmp_ne (pc := 280) (tgt := 298) C dL_counts_280 (by decide) (fun hc9 => ?_) (fun hc9 => ?_)
                                · have hw := hw.1 hc9
                                  refine aw_sub [] trivial ?_
                                  exact J_298  _ hw
                                · have hw := hw.2 hc9
                                  refine aw_aload_n (pc := 283) C dL_counts_283 rfl rfl ?_
                                  refine aw_bipush (pc := 284) C dL_counts_284 (i := (11 : Int)) (by decide) ?_
                                  obtain ⟨hp9, hw⟩ := hw
                                  refine aw_callV (pc := 286) (as := [vI (11 : Int)]) C ci6 (fun As hA => met_X6_count G l As a0 (11 : Int) _ _ hA hw) tw243 tw244 tw245 tw1 tw246 ⟨rfl, rfl⟩ ⟨rfl, by decide, by decide, pd_X6_count⟩ ⟨Nat.le_of_ble_eq_true rfl, Nat.le_of_ble_eq_true rfl⟩ ⟨(Nat.le_of_ble_eq_true rfl), (Nat.le_of_ble_eq_true rfl)⟩ (Nat.le_of_ble_eq_true rfl) dL_counts_286 rfl hp9 (fun v9 h286 hq9 => ?_)
                                  obtain ⟨r286, rfl, hw⟩ := hq9
                                  refine aw_iload (pc := 289) C dL_counts_289 rfl ?_
                                  refine aw_icmp_ne (pc := 291) (tgt := 298) C dL_counts_291 (by decide) (fun hc9 => ?_) (fun hc9 => ?_)
                                  · have hw := hw.1 hc9
                                    refine aw_sub [] trivial ?_
                                    exact J_298  _ hw
                                  · have hw := hw.2 hc9
                                    refine aw_iconst (pc := 294) C dL_counts_294 (i := (1 : Int)) (by decide) ?_
                                    refine aw_goto (pc := 295) (tgt := 299) C dL_counts_295 (by decide) ?_
                                    refine aw_sub [] trivial ?_
                                    exact J_299 _ _ hw
            · have hw := hw.2 hc9
              refine aw_iconst (pc := 152) C dL_counts_152 (i := (0 : Int)) (by decide) ?_
              obtain ⟨hp9, hw⟩ := hw
              exact aw_zret (pc := 153) C hr dL_counts_153 ⟨Nat.le_of_ble_eq_true rfl, Nat.le_of_ble_eq_true rfl⟩ hp9 ⟨_, rfl, hw⟩
          refine aw_if_ne (pc := 124) (tgt := 131) C dL_counts_124 (by decide) (fun hc9 => ?_) (fun hc9 => ?_)
          · have hw := hw.1 hc9
            refine aw_ldc2d (pc := 131) C tw636 dL_counts_131 ?_
            refine aw_iconst (pc := 134) C dL_counts_134 (i := (1 : Int)) (by decide) ?_
            refine aw_aload (pc := 135) C dL_counts_135 rfl ?_
            refine aw_aload (pc := 137) C dL_counts_137 rfl ?_
            refine aw_callS (pc := 139) (as := [vI (1 : Int), vR a6, vR a8]) C (fun As hA => met_L_many G l As (1 : Int) a6 a8 _ _ hA hw) tw588 tw589 tw0 tw590 ⟨rfl, rfl⟩ ⟨by decide, by decide, pd_L_many⟩ ⟨Nat.le_of_ble_eq_true rfl, Nat.le_of_ble_eq_true rfl⟩ ⟨(Nat.le_of_ble_eq_true rfl), (Nat.le_of_ble_eq_true rfl)⟩ (Nat.le_of_ble_eq_true rfl) dL_counts_139 rfl (fun v9 h139 hq9 => ?_)
            obtain ⟨r139, rfl, hw⟩ := hq9
            refine aw_i2d (pc := 142) C dL_counts_142  ?_
            obtain ⟨hp9, hw⟩ := hw
            refine aw_dmul (pc := 143) C dL_counts_143 hp9 ?_
            refine aw_iload (pc := 144) C dL_counts_144 rfl ?_
            refine aw_i2d (pc := 146) C dL_counts_146  ?_
            obtain ⟨hp9, hw⟩ := hw
            refine aw_ddiv (pc := 147) C dL_counts_147 hp9 ?_
            refine aw_sub [(0, vR a0), (1, vI a1), (2, vI a2), (3, vI a3), (6, vR a6), (8, vR a8), (10, vI x10_9), (11, vI x11_9)] ⟨rfl, rfl, rfl, rfl, rfl, rfl, rfl, rfl, trivial⟩ ?_
            exact J_148 _ _ hw
          · have hw := hw.2 hc9
            refine aw_dconst1 (pc := 127) C dL_counts_127  ?_
            refine aw_goto (pc := 128) (tgt := 148) C dL_counts_128 (by decide) ?_
            refine aw_sub [(0, vR a0), (1, vI a1), (2, vI a2), (3, vI a3), (6, vR a6), (8, vR a8), (10, vI x10_9), (11, vI x11_9)] ⟨rfl, rfl, rfl, rfl, rfl, rfl, rfl, rfl, trivial⟩ ?_
            exact J_148 _ _ hw
        · have hw := hw.2 hc9
          refine aw_aload_n (pc := 85) C dL_counts_85 rfl rfl ?_
          refine aw_iload (pc := 86) C dL_counts_86 rfl ?_
          obtain ⟨hp9, hw⟩ := hw
          refine aw_callV (pc := 88) (as := [vI x12_78]) C ci6 (fun As hA => met_X6_setting G l As a0 x12_78 _ _ hA hw) tw624 tw625 tw626 tw1 tw627 ⟨rfl, rfl⟩ ⟨rfl, by decide, by decide, pd_X6_setting⟩ ⟨Nat.le_of_ble_eq_true rfl, Nat.le_of_ble_eq_true rfl⟩ ⟨(Nat.le_of_ble_eq_true rfl), (Nat.le_of_ble_eq_true rfl)⟩ (Nat.le_of_ble_eq_true rfl) dL_counts_88 rfl hp9 (fun v9 h88 hq9 => ?_)
          obtain ⟨r88, rfl, hw⟩ := hq9
          refine aw_aload (pc := 91) C dL_counts_91 rfl ?_
          refine aw_iload (pc := 93) C dL_counts_93 rfl ?_
          obtain ⟨⟨k9, hp9⟩, hw⟩ := hw
          refine aw_iald (pc := 95) C dL_counts_95 hp9 ?_
          refine aw_icmp_eq (pc := 96) (tgt := 101) C dL_counts_96 (by decide) (fun hc9 => ?_) (fun hc9 => ?_)
          · have hw := hw.1 hc9
            obtain ⟨hp9, hw⟩ := hw
            refine aw_iincN (pc := 101) C dL_counts_101 (k := 1) (by decide) rfl (by rw [hml]; decide) hp9 (fun x12_101 e9 => ?_)
            have hw := hw x12_101 e9
            refine aw_goto (pc := 104) (tgt := 78) C dL_counts_104 (by decide) ?_
            obtain ⟨m9, hm9, hw⟩ := hw
            refine aw_sub [(0, vR a0), (1, vI a1), (2, vI a2), (3, vI a3), (6, vR a6), (7, vR a7), (8, vR a8), (10, vI x10_9), (11, vI x11_9), (12, vI x12_101)] ⟨rfl, rfl, rfl, rfl, rfl, rfl, rfl, rfl, rfl, rfl, trivial⟩ ?_
            exact ih_78 m9 hm9 _ _ hw
          · have hw := hw.2 hc9
            refine aw_iconst (pc := 99) C dL_counts_99 (i := (0 : Int)) (by decide) ?_
            obtain ⟨hp9, hw⟩ := hw
            exact aw_zret (pc := 100) C hr dL_counts_100 ⟨Nat.le_of_ble_eq_true rfl, Nat.le_of_ble_eq_true rfl⟩ hp9 ⟨_, rfl, hw⟩
      refine aw_sub [(0, vR a0), (1, vI a1), (2, vI a2), (3, vI a3), (6, vR a6), (7, vR a7), (8, vR a8), (10, vI x10_9), (11, vI x11_9), (12, vI (0 : Int))] ⟨rfl, rfl, rfl, rfl, rfl, rfl, rfl, rfl, rfl, rfl, trivial⟩ ?_
      exact L_78 n9 _ _ hi9
    · have hw := hw.2 hc9
      refine aw_iload (pc := 18) C dL_counts_18 rfl ?_
      refine aw_aload (pc := 20) C dL_counts_20 rfl ?_
      refine aw_iconst (pc := 22) C dL_counts_22 (i := (2 : Int)) (by decide) ?_
      refine aw_iload (pc := 23) C dL_counts_23 rfl ?_
      obtain ⟨hp9, hw⟩ := hw
      refine aw_imul (pc := 25) C dL_counts_25 hp9 ?_
      obtain ⟨⟨k9, hp9⟩, hw⟩ := hw
      refine aw_iald (pc := 26) C dL_counts_26 hp9 ?_
      obtain ⟨k_52, hk_52, hw⟩ := jn_out hw
      have J_52 : ∀ (t1_52 : Int) (h_52 : AH), k_52 t1_52 h_52 → AW G p l e ({ frames := 7, cells := 0, slots := 0, locals := 157 } : Room) s m args below meth c 0 0 (MQ below (QG G (oI Q)) args s 0 0 (frA G)) 52 (eOf [(0, vR a0), (1, vI a1), (2, vI a2), (3, vI a3), (4, vR a4), (5, vR a5), (6, vR a6), (7, vR a7), (8, vR a8), (9, vR a9), (11, vI x11_9), (12, vI x12_9)]) [vI t1_52, vI x10_9] h_52 := by
        intro t1_52 h_52 hw
        rw [hk_52] at hw
        obtain ⟨hp9, hw⟩ := hw
        refine aw_iadd (pc := 52) C dL_counts_52 hp9 ?_
        refine aw_nmI (fun x10_53 e9 => ?_)
        have hw := hw x10_53 e9
        refine aw_istore (pc := 53) C dL_counts_53 (by rw [hml]; decide) ?_
        refine aw_iload (pc := 55) C dL_counts_55 rfl ?_
        refine aw_aload (pc := 57) C dL_counts_57 rfl ?_
        refine aw_iconst (pc := 59) C dL_counts_59 (i := (2 : Int)) (by decide) ?_
        refine aw_iload (pc := 60) C dL_counts_60 rfl ?_
        obtain ⟨hp9, hw⟩ := hw
        refine aw_imul (pc := 62) C dL_counts_62 hp9 ?_
        refine aw_iconst (pc := 63) C dL_counts_63 (i := (1 : Int)) (by decide) ?_
        obtain ⟨hp9, hw⟩ := hw
        refine aw_iadd (pc := 64) C dL_counts_64 hp9 ?_
        obtain ⟨⟨k9, hp9⟩, hw⟩ := hw
        refine aw_iald (pc := 65) C dL_counts_65 hp9 ?_
        obtain ⟨hp9, hw⟩ := hw
        refine aw_iadd (pc := 66) C dL_counts_66 hp9 ?_
        refine aw_nmI (fun x11_67 e9 => ?_)
        have hw := hw x11_67 e9
        refine aw_istore (pc := 67) C dL_counts_67 (by rw [hml]; decide) ?_
        obtain ⟨hp9, hw⟩ := hw
        refine aw_iincN (pc := 69) C dL_counts_69 (k := 1) (by decide) rfl (by rw [hml]; decide) hp9 (fun x12_69 e9 => ?_)
        have hw := hw x12_69 e9
        refine aw_goto (pc := 72) (tgt := 9) C dL_counts_72 (by decide) ?_
        obtain ⟨m9, hm9, hw⟩ := hw
        refine aw_sub [(0, vR a0), (1, vI a1), (2, vI a2), (3, vI a3), (4, vR a4), (5, vR a5), (6, vR a6), (7, vR a7), (8, vR a8), (9, vR a9), (10, vI x10_53), (11, vI x11_67), (12, vI x12_69)] ⟨rfl, rfl, rfl, rfl, rfl, rfl, rfl, rfl, rfl, rfl, rfl, rfl, rfl, trivial⟩ ?_
        exact ih_9 m9 hm9 _ _ _ _ hw
      refine aw_if_ge (pc := 27) (tgt := 34) C dL_counts_27 (by decide) (fun hc9 => ?_) (fun hc9 => ?_)
      · have hw := hw.1 hc9
        refine aw_iload (pc := 34) C dL_counts_34 rfl ?_
        refine aw_aload (pc := 36) C dL_counts_36 rfl ?_
        refine aw_iconst (pc := 38) C dL_counts_38 (i := (2 : Int)) (by decide) ?_
        refine aw_iload (pc := 39) C dL_counts_39 rfl ?_
        obtain ⟨hp9, hw⟩ := hw
        refine aw_imul (pc := 41) C dL_counts_41 hp9 ?_
        obtain ⟨⟨k9, hp9⟩, hw⟩ := hw
        refine aw_iald (pc := 42) C dL_counts_42 hp9 ?_
        refine aw_aload (pc := 43) C dL_counts_43 rfl ?_
        refine aw_aload (pc := 45) C dL_counts_45 rfl ?_
        refine aw_aload (pc := 47) C dL_counts_47 rfl ?_
        refine aw_callS (pc := 49) (as := [vI x12_9, vI (haI h_9 a8 ((2 : Int) * x12_9)), vR a4, vR a5, vR a7]) C (fun As hA => met_L_far G l As x12_9 (haI h_9 a8 ((2 : Int) * x12_9)) a4 a5 a7 _ _ hA hw) tw462 tw463 tw0 tw464 ⟨rfl, rfl⟩ ⟨by decide, by decide, pd_L_far⟩ ⟨Nat.le_of_ble_eq_true rfl, Nat.le_of_ble_eq_true rfl⟩ ⟨(Nat.le_of_ble_eq_true rfl), (Nat.le_of_ble_eq_true rfl)⟩ (Nat.le_of_ble_eq_true rfl) dL_counts_49 rfl (fun v9 h49 hq9 => ?_)
        obtain ⟨r49, rfl, hw⟩ := hq9
        refine aw_sub [(0, vR a0), (1, vI a1), (2, vI a2), (3, vI a3), (4, vR a4), (5, vR a5), (6, vR a6), (7, vR a7), (8, vR a8), (9, vR a9), (11, vI x11_9), (12, vI x12_9)] ⟨rfl, rfl, rfl, rfl, rfl, rfl, rfl, rfl, rfl, rfl, rfl, rfl, trivial⟩ ?_
        exact J_52 _ _ hw
      · have hw := hw.2 hc9
        refine aw_iconst (pc := 30) C dL_counts_30 (i := (0 : Int)) (by decide) ?_
        refine aw_goto (pc := 31) (tgt := 52) C dL_counts_31 (by decide) ?_
        refine aw_sub [(0, vR a0), (1, vI a1), (2, vI a2), (3, vI a3), (4, vR a4), (5, vR a5), (6, vR a6), (7, vR a7), (8, vR a8), (9, vR a9), (11, vI x11_9), (12, vI x12_9)] ⟨rfl, rfl, rfl, rfl, rfl, rfl, rfl, rfl, rfl, rfl, rfl, rfl, trivial⟩ ?_
        exact J_52 _ _ hw
  refine aw_sub [(0, vR a0), (1, vI a1), (2, vI a2), (3, vI a3), (4, vR a4), (5, vR a5), (6, vR a6), (7, vR a7), (8, vR a8), (9, vR a9), (10, vI (0 : Int)), (11, vI (0 : Int)), (12, vI (0 : Int))] ⟨rfl, rfl, rfl, rfl, rfl, rfl, rfl, rfl, rfl, rfl, rfl, rfl, rfl, trivial⟩ ?_
  exact L_9 n9 _ _ _ _ hi9
theorem dL_told_0 : decode cL_told 0 = .ok (.bipush 16, 2) := by decide +kernel
theorem dL_told_2 : decode cL_told 2 = .ok (.newarray .int, 2) := by decide +kernel
theorem dL_told_4 : decode cL_told 4 = .ok (.astore 6, 2) := by decide +kernel
theorem dL_told_6 : decode cL_told 6 = .ok (.bipush 8, 2) := by decide +kernel
theorem dL_told_8 : decode cL_told 8 = .ok (.newarray .int, 2) := by decide +kernel
theorem dL_told_10 : decode cL_told 10 = .ok (.astore 7, 2) := by decide +kernel
theorem dL_told_12 : decode cL_told 12 = .ok (.bipush 16, 2) := by decide +kernel
theorem dL_told_14 : decode cL_told 14 = .ok (.newarray .int, 2) := by decide +kernel
theorem dL_told_16 : decode cL_told 16 = .ok (.astore 8, 2) := by decide +kernel
theorem dL_told_18 : decode cL_told 18 = .ok (.bipush 8, 2) := by decide +kernel
theorem dL_told_20 : decode cL_told 20 = .ok (.newarray .int, 2) := by decide +kernel
theorem dL_told_22 : decode cL_told 22 = .ok (.astore 9, 2) := by decide +kernel
theorem dL_told_24 : decode cL_told 24 = .ok (.aload_n 2, 1) := by decide +kernel
theorem dL_told_25 : decode cL_told 25 = .ok (.aload_n 3, 1) := by decide +kernel
theorem dL_told_26 : decode cL_told 26 = .ok (.aload 4, 2) := by decide +kernel
theorem dL_told_28 : decode cL_told 28 = .ok (.aload 5, 2) := by decide +kernel
theorem dL_told_30 : decode cL_told 30 = .ok (.aload 6, 2) := by decide +kernel
theorem dL_told_32 : decode cL_told 32 = .ok (.invokestatic 50, 3) := by decide +kernel
theorem dL_told_35 : decode cL_told 35 = .ok (.iconst 0, 1) := by decide +kernel
theorem dL_told_36 : decode cL_told 36 = .ok (.istore 10, 2) := by decide +kernel
theorem dL_told_38 : decode cL_told 38 = .ok (.iload 10, 2) := by decide +kernel
theorem dL_told_40 : decode cL_told 40 = .ok (.aload 4, 2) := by decide +kernel
theorem dL_told_42 : decode cL_told 42 = .ok (.iconst 0, 1) := by decide +kernel
theorem dL_told_43 : decode cL_told 43 = .ok (.iaload, 1) := by decide +kernel
theorem dL_told_44 : decode cL_told 44 = .ok (.if_icmp .ge 20, 3) := by decide +kernel
theorem dL_told_47 : decode cL_told 47 = .ok (.aload 7, 2) := by decide +kernel
theorem dL_told_49 : decode cL_told 49 = .ok (.iload 10, 2) := by decide +kernel
theorem dL_told_51 : decode cL_told 51 = .ok (.aload_n 2, 1) := by decide +kernel
theorem dL_told_52 : decode cL_told 52 = .ok (.iconst 2, 1) := by decide +kernel
theorem dL_told_53 : decode cL_told 53 = .ok (.iload 10, 2) := by decide +kernel
theorem dL_told_55 : decode cL_told 55 = .ok (.imul, 1) := by decide +kernel
theorem dL_told_56 : decode cL_told 56 = .ok (.iaload, 1) := by decide +kernel
theorem dL_told_57 : decode cL_told 57 = .ok (.iastore, 1) := by decide +kernel
theorem dL_told_58 : decode cL_told 58 = .ok (.iinc 10 1, 3) := by decide +kernel
theorem dL_told_61 : decode cL_told 61 = .ok (.goto (-23), 3) := by decide +kernel
theorem dL_told_64 : decode cL_told 64 = .ok (.iconst 0, 1) := by decide +kernel
theorem dL_told_65 : decode cL_told 65 = .ok (.istore 10, 2) := by decide +kernel
theorem dL_told_67 : decode cL_told 67 = .ok (.iload 10, 2) := by decide +kernel
theorem dL_told_69 : decode cL_told 69 = .ok (.aload 5, 2) := by decide +kernel
theorem dL_told_71 : decode cL_told 71 = .ok (.bipush 6, 2) := by decide +kernel
theorem dL_told_73 : decode cL_told 73 = .ok (.iaload, 1) := by decide +kernel
theorem dL_told_74 : decode cL_told 74 = .ok (.if_icmp .gt 38, 3) := by decide +kernel
theorem dL_told_77 : decode cL_told 77 = .ok (.iload 10, 2) := by decide +kernel
theorem dL_told_79 : decode cL_told 79 = .ok (.iconst 2, 1) := by decide +kernel
theorem dL_told_80 : decode cL_told 80 = .ok (.if_icmp .ge 26, 3) := by decide +kernel
theorem dL_told_83 : decode cL_told 83 = .ok (.aload_n 0, 1) := by decide +kernel
theorem dL_told_84 : decode cL_told 84 = .ok (.iload 10, 2) := by decide +kernel
theorem dL_told_86 : decode cL_told 86 = .ok (.iload_n 1, 1) := by decide +kernel
theorem dL_told_87 : decode cL_told 87 = .ok (.iconst 0, 1) := by decide +kernel
theorem dL_told_88 : decode cL_told 88 = .ok (.iconst 0, 1) := by decide +kernel
theorem dL_told_89 : decode cL_told 89 = .ok (.iconst 0, 1) := by decide +kernel
theorem dL_told_90 : decode cL_told 90 = .ok (.aload_n 2, 1) := by decide +kernel
theorem dL_told_91 : decode cL_told 91 = .ok (.aload_n 3, 1) := by decide +kernel
theorem dL_told_92 : decode cL_told 92 = .ok (.aload 4, 2) := by decide +kernel
theorem dL_told_94 : decode cL_told 94 = .ok (.aload 6, 2) := by decide +kernel
theorem dL_told_96 : decode cL_told 96 = .ok (.aload 7, 2) := by decide +kernel
theorem dL_told_98 : decode cL_told 98 = .ok (.invokestatic 54, 3) := by decide +kernel
theorem dL_told_101 : decode cL_told 101 = .ok (.ifCond .ne 5, 3) := by decide +kernel
theorem dL_told_104 : decode cL_told 104 = .ok (.iconst 0, 1) := by decide +kernel
theorem dL_told_105 : decode cL_told 105 = .ok (.ireturn, 1) := by decide +kernel
theorem dL_told_106 : decode cL_told 106 = .ok (.iinc 10 1, 3) := by decide +kernel
theorem dL_told_109 : decode cL_told 109 = .ok (.goto (-42), 3) := by decide +kernel
theorem dL_told_112 : decode cL_told 112 = .ok (.aload 4, 2) := by decide +kernel
theorem dL_told_114 : decode cL_told 114 = .ok (.iconst 0, 1) := by decide +kernel
theorem dL_told_115 : decode cL_told 115 = .ok (.iaload, 1) := by decide +kernel
theorem dL_told_116 : decode cL_told 116 = .ok (.iconst 1, 1) := by decide +kernel
theorem dL_told_117 : decode cL_told 117 = .ok (.isub, 1) := by decide +kernel
theorem dL_told_118 : decode cL_told 118 = .ok (.istore 11, 2) := by decide +kernel
theorem dL_told_120 : decode cL_told 120 = .ok (.iload 11, 2) := by decide +kernel
theorem dL_told_122 : decode cL_told 122 = .ok (.ifCond .lt 61, 3) := by decide +kernel
theorem dL_told_125 : decode cL_told 125 = .ok (.aload 6, 2) := by decide +kernel
theorem dL_told_127 : decode cL_told 127 = .ok (.iconst 2, 1) := by decide +kernel
theorem dL_told_128 : decode cL_told 128 = .ok (.iload 11, 2) := by decide +kernel
theorem dL_told_130 : decode cL_told 130 = .ok (.imul, 1) := by decide +kernel
theorem dL_told_131 : decode cL_told 131 = .ok (.iaload, 1) := by decide +kernel
theorem dL_told_132 : decode cL_told 132 = .ok (.ifCond .lt 6, 3) := by decide +kernel
theorem dL_told_135 : decode cL_told 135 = .ok (.goto 42, 3) := by decide +kernel
theorem dL_told_138 : decode cL_told 138 = .ok (.aload 7, 2) := by decide +kernel
theorem dL_told_140 : decode cL_told 140 = .ok (.iload 11, 2) := by decide +kernel
theorem dL_told_142 : decode cL_told 142 = .ok (.iconst (-1), 1) := by decide +kernel
theorem dL_told_143 : decode cL_told 143 = .ok (.iastore, 1) := by decide +kernel
theorem dL_told_144 : decode cL_told 144 = .ok (.aload 9, 2) := by decide +kernel
theorem dL_told_146 : decode cL_told 146 = .ok (.iload 11, 2) := by decide +kernel
theorem dL_told_148 : decode cL_told 148 = .ok (.iload 10, 2) := by decide +kernel
theorem dL_told_150 : decode cL_told 150 = .ok (.iastore, 1) := by decide +kernel
theorem dL_told_151 : decode cL_told 151 = .ok (.aload_n 0, 1) := by decide +kernel
theorem dL_told_152 : decode cL_told 152 = .ok (.iload 10, 2) := by decide +kernel
theorem dL_told_154 : decode cL_told 154 = .ok (.iinc 10 1, 3) := by decide +kernel
theorem dL_told_157 : decode cL_told 157 = .ok (.iload_n 1, 1) := by decide +kernel
theorem dL_told_158 : decode cL_told 158 = .ok (.iconst 0, 1) := by decide +kernel
theorem dL_told_159 : decode cL_told 159 = .ok (.iconst 0, 1) := by decide +kernel
theorem dL_told_160 : decode cL_told 160 = .ok (.iconst 0, 1) := by decide +kernel
theorem dL_told_161 : decode cL_told 161 = .ok (.aload_n 2, 1) := by decide +kernel
theorem dL_told_162 : decode cL_told 162 = .ok (.aload_n 3, 1) := by decide +kernel
theorem dL_told_163 : decode cL_told 163 = .ok (.aload 4, 2) := by decide +kernel
theorem dL_told_165 : decode cL_told 165 = .ok (.aload 6, 2) := by decide +kernel
theorem dL_told_167 : decode cL_told 167 = .ok (.aload 7, 2) := by decide +kernel
theorem dL_told_169 : decode cL_told 169 = .ok (.invokestatic 54, 3) := by decide +kernel
theorem dL_told_172 : decode cL_told 172 = .ok (.ifCond .ne 5, 3) := by decide +kernel
theorem dL_told_175 : decode cL_told 175 = .ok (.iconst 0, 1) := by decide +kernel
theorem dL_told_176 : decode cL_told 176 = .ok (.ireturn, 1) := by decide +kernel
theorem dL_told_177 : decode cL_told 177 = .ok (.iinc 11 (-1), 3) := by decide +kernel
theorem dL_told_180 : decode cL_told 180 = .ok (.goto (-60), 3) := by decide +kernel
theorem dL_told_183 : decode cL_told 183 = .ok (.iconst 0, 1) := by decide +kernel
theorem dL_told_184 : decode cL_told 184 = .ok (.istore 11, 2) := by decide +kernel
theorem dL_told_186 : decode cL_told 186 = .ok (.aload_n 3, 1) := by decide +kernel
theorem dL_told_187 : decode cL_told 187 = .ok (.aload 4, 2) := by decide +kernel
theorem dL_told_189 : decode cL_told 189 = .ok (.aload 6, 2) := by decide +kernel
theorem dL_told_191 : decode cL_told 191 = .ok (.aload 7, 2) := by decide +kernel
theorem dL_told_193 : decode cL_told 193 = .ok (.invokestatic 57, 3) := by decide +kernel
theorem dL_told_196 : decode cL_told 196 = .ok (.ifCond .ne 19, 3) := by decide +kernel
theorem dL_told_199 : decode cL_told 199 = .ok (.iload 11, 2) := by decide +kernel
theorem dL_told_201 : decode cL_told 201 = .ok (.ifCond .ne 120, 3) := by decide +kernel
theorem dL_told_204 : decode cL_told 204 = .ok (.iconst 3, 1) := by decide +kernel
theorem dL_told_205 : decode cL_told 205 = .ok (.aload 4, 2) := by decide +kernel
theorem dL_told_207 : decode cL_told 207 = .ok (.aload 6, 2) := by decide +kernel
theorem dL_told_209 : decode cL_told 209 = .ok (.invokestatic 61, 3) := by decide +kernel
theorem dL_told_212 : decode cL_told 212 = .ok (.ifCond .le 109, 3) := by decide +kernel
theorem dL_told_215 : decode cL_told 215 = .ok (.iconst 0, 1) := by decide +kernel
theorem dL_told_216 : decode cL_told 216 = .ok (.istore 12, 2) := by decide +kernel
theorem dL_told_218 : decode cL_told 218 = .ok (.iload 12, 2) := by decide +kernel
theorem dL_told_220 : decode cL_told 220 = .ok (.aload 4, 2) := by decide +kernel
theorem dL_told_222 : decode cL_told 222 = .ok (.iconst 0, 1) := by decide +kernel
theorem dL_told_223 : decode cL_told 223 = .ok (.iaload, 1) := by decide +kernel
theorem dL_told_224 : decode cL_told 224 = .ok (.if_icmp .ge 45, 3) := by decide +kernel
theorem dL_told_227 : decode cL_told 227 = .ok (.aload 6, 2) := by decide +kernel
theorem dL_told_229 : decode cL_told 229 = .ok (.iconst 2, 1) := by decide +kernel
theorem dL_told_230 : decode cL_told 230 = .ok (.iload 12, 2) := by decide +kernel
theorem dL_told_232 : decode cL_told 232 = .ok (.imul, 1) := by decide +kernel
theorem dL_told_233 : decode cL_told 233 = .ok (.iaload, 1) := by decide +kernel
theorem dL_told_234 : decode cL_told 234 = .ok (.ifCond .lt 29, 3) := by decide +kernel
theorem dL_told_237 : decode cL_told 237 = .ok (.aload 7, 2) := by decide +kernel
theorem dL_told_239 : decode cL_told 239 = .ok (.iload 12, 2) := by decide +kernel
theorem dL_told_241 : decode cL_told 241 = .ok (.iaload, 1) := by decide +kernel
theorem dL_told_242 : decode cL_told 242 = .ok (.aload_n 3, 1) := by decide +kernel
theorem dL_told_243 : decode cL_told 243 = .ok (.iconst 2, 1) := by decide +kernel
theorem dL_told_244 : decode cL_told 244 = .ok (.aload 6, 2) := by decide +kernel
theorem dL_told_246 : decode cL_told 246 = .ok (.iconst 2, 1) := by decide +kernel
theorem dL_told_247 : decode cL_told 247 = .ok (.iload 12, 2) := by decide +kernel
theorem dL_told_249 : decode cL_told 249 = .ok (.imul, 1) := by decide +kernel
theorem dL_told_250 : decode cL_told 250 = .ok (.iaload, 1) := by decide +kernel
theorem dL_told_251 : decode cL_told 251 = .ok (.imul, 1) := by decide +kernel
theorem dL_told_252 : decode cL_told 252 = .ok (.iaload, 1) := by decide +kernel
theorem dL_told_253 : decode cL_told 253 = .ok (.if_icmp .eq 10, 3) := by decide +kernel
theorem dL_told_256 : decode cL_told 256 = .ok (.aload 9, 2) := by decide +kernel
theorem dL_told_258 : decode cL_told 258 = .ok (.iload 12, 2) := by decide +kernel
theorem dL_told_260 : decode cL_told 260 = .ok (.iload 10, 2) := by decide +kernel
theorem dL_told_262 : decode cL_told 262 = .ok (.iastore, 1) := by decide +kernel
theorem dL_told_263 : decode cL_told 263 = .ok (.iinc 12 1, 3) := by decide +kernel
theorem dL_told_266 : decode cL_told 266 = .ok (.goto (-48), 3) := by decide +kernel
theorem dL_told_269 : decode cL_told 269 = .ok (.aload_n 3, 1) := by decide +kernel
theorem dL_told_270 : decode cL_told 270 = .ok (.aload 4, 2) := by decide +kernel
theorem dL_told_272 : decode cL_told 272 = .ok (.aload 5, 2) := by decide +kernel
theorem dL_told_274 : decode cL_told 274 = .ok (.aload 6, 2) := by decide +kernel
theorem dL_told_276 : decode cL_told 276 = .ok (.aload 7, 2) := by decide +kernel
theorem dL_told_278 : decode cL_told 278 = .ok (.aload 8, 2) := by decide +kernel
theorem dL_told_280 : decode cL_told 280 = .ok (.invokestatic 65, 3) := by decide +kernel
theorem dL_told_283 : decode cL_told 283 = .ok (.istore 12, 2) := by decide +kernel
theorem dL_told_285 : decode cL_told 285 = .ok (.aload_n 0, 1) := by decide +kernel
theorem dL_told_286 : decode cL_told 286 = .ok (.iload 10, 2) := by decide +kernel
theorem dL_told_288 : decode cL_told 288 = .ok (.iload_n 1, 1) := by decide +kernel
theorem dL_told_289 : decode cL_told 289 = .ok (.iload 11, 2) := by decide +kernel
theorem dL_told_291 : decode cL_told 291 = .ok (.iadd, 1) := by decide +kernel
theorem dL_told_292 : decode cL_told 292 = .ok (.iconst 0, 1) := by decide +kernel
theorem dL_told_293 : decode cL_told 293 = .ok (.iconst 1, 1) := by decide +kernel
theorem dL_told_294 : decode cL_told 294 = .ok (.iload 12, 2) := by decide +kernel
theorem dL_told_296 : decode cL_told 296 = .ok (.aload_n 2, 1) := by decide +kernel
theorem dL_told_297 : decode cL_told 297 = .ok (.aload_n 3, 1) := by decide +kernel
theorem dL_told_298 : decode cL_told 298 = .ok (.aload 4, 2) := by decide +kernel
theorem dL_told_300 : decode cL_told 300 = .ok (.aload 6, 2) := by decide +kernel
theorem dL_told_302 : decode cL_told 302 = .ok (.aload 7, 2) := by decide +kernel
theorem dL_told_304 : decode cL_told 304 = .ok (.invokestatic 54, 3) := by decide +kernel
theorem dL_told_307 : decode cL_told 307 = .ok (.ifCond .ne 5, 3) := by decide +kernel
theorem dL_told_310 : decode cL_told 310 = .ok (.iconst 0, 1) := by decide +kernel
theorem dL_told_311 : decode cL_told 311 = .ok (.ireturn, 1) := by decide +kernel
theorem dL_told_312 : decode cL_told 312 = .ok (.iinc 10 1, 3) := by decide +kernel
theorem dL_told_315 : decode cL_told 315 = .ok (.iinc 11 1, 3) := by decide +kernel
theorem dL_told_318 : decode cL_told 318 = .ok (.goto (-132), 3) := by decide +kernel
theorem dL_told_321 : decode cL_told 321 = .ok (.iconst 0, 1) := by decide +kernel
theorem dL_told_322 : decode cL_told 322 = .ok (.istore 12, 2) := by decide +kernel
theorem dL_told_324 : decode cL_told 324 = .ok (.iconst 0, 1) := by decide +kernel
theorem dL_told_325 : decode cL_told 325 = .ok (.istore 13, 2) := by decide +kernel
theorem dL_told_327 : decode cL_told 327 = .ok (.iload 13, 2) := by decide +kernel
theorem dL_told_329 : decode cL_told 329 = .ok (.aload 4, 2) := by decide +kernel
theorem dL_told_331 : decode cL_told 331 = .ok (.iconst 1, 1) := by decide +kernel
theorem dL_told_332 : decode cL_told 332 = .ok (.iaload, 1) := by decide +kernel
theorem dL_told_333 : decode cL_told 333 = .ok (.if_icmp .ge 54, 3) := by decide +kernel
theorem dL_told_336 : decode cL_told 336 = .ok (.iload 13, 2) := by decide +kernel
theorem dL_told_338 : decode cL_told 338 = .ok (.aload 4, 2) := by decide +kernel
theorem dL_told_340 : decode cL_told 340 = .ok (.aload 6, 2) := by decide +kernel
theorem dL_told_342 : decode cL_told 342 = .ok (.invokestatic 18, 3) := by decide +kernel
theorem dL_told_345 : decode cL_told 345 = .ok (.ifCond .eq 6, 3) := by decide +kernel
theorem dL_told_348 : decode cL_told 348 = .ok (.goto 33, 3) := by decide +kernel
theorem dL_told_351 : decode cL_told 351 = .ok (.iinc 12 1, 3) := by decide +kernel
theorem dL_told_354 : decode cL_told 354 = .ok (.aload_n 0, 1) := by decide +kernel
theorem dL_told_355 : decode cL_told 355 = .ok (.iload 10, 2) := by decide +kernel
theorem dL_told_357 : decode cL_told 357 = .ok (.iinc 10 1, 3) := by decide +kernel
theorem dL_told_360 : decode cL_told 360 = .ok (.iload_n 1, 1) := by decide +kernel
theorem dL_told_361 : decode cL_told 361 = .ok (.iload 12, 2) := by decide +kernel
theorem dL_told_363 : decode cL_told 363 = .ok (.iconst 1, 1) := by decide +kernel
theorem dL_told_364 : decode cL_told 364 = .ok (.iconst 0, 1) := by decide +kernel
theorem dL_told_365 : decode cL_told 365 = .ok (.aload_n 2, 1) := by decide +kernel
theorem dL_told_366 : decode cL_told 366 = .ok (.aload_n 3, 1) := by decide +kernel
theorem dL_told_367 : decode cL_told 367 = .ok (.aload 4, 2) := by decide +kernel
theorem dL_told_369 : decode cL_told 369 = .ok (.aload 6, 2) := by decide +kernel
theorem dL_told_371 : decode cL_told 371 = .ok (.aload 7, 2) := by decide +kernel
theorem dL_told_373 : decode cL_told 373 = .ok (.invokestatic 54, 3) := by decide +kernel
theorem dL_told_376 : decode cL_told 376 = .ok (.ifCond .ne 5, 3) := by decide +kernel
theorem dL_told_379 : decode cL_told 379 = .ok (.iconst 0, 1) := by decide +kernel
theorem dL_told_380 : decode cL_told 380 = .ok (.ireturn, 1) := by decide +kernel
theorem dL_told_381 : decode cL_told 381 = .ok (.iinc 13 1, 3) := by decide +kernel
theorem dL_told_384 : decode cL_told 384 = .ok (.goto (-57), 3) := by decide +kernel
theorem dL_told_387 : decode cL_told 387 = .ok (.iload 10, 2) := by decide +kernel
theorem dL_told_389 : decode cL_told 389 = .ok (.aload 5, 2) := by decide +kernel
theorem dL_told_391 : decode cL_told 391 = .ok (.bipush 7, 2) := by decide +kernel
theorem dL_told_393 : decode cL_told 393 = .ok (.iaload, 1) := by decide +kernel
theorem dL_told_394 : decode cL_told 394 = .ok (.iadd, 1) := by decide +kernel
theorem dL_told_395 : decode cL_told 395 = .ok (.istore 10, 2) := by decide +kernel
theorem dL_told_397 : decode cL_told 397 = .ok (.aload_n 0, 1) := by decide +kernel
theorem dL_told_398 : decode cL_told 398 = .ok (.iload 10, 2) := by decide +kernel
theorem dL_told_400 : decode cL_told 400 = .ok (.iconst 1, 1) := by decide +kernel
theorem dL_told_401 : decode cL_told 401 = .ok (.isub, 1) := by decide +kernel
theorem dL_told_402 : decode cL_told 402 = .ok (.iload_n 1, 1) := by decide +kernel
theorem dL_told_403 : decode cL_told 403 = .ok (.iload 12, 2) := by decide +kernel
theorem dL_told_405 : decode cL_told 405 = .ok (.iconst 1, 1) := by decide +kernel
theorem dL_told_406 : decode cL_told 406 = .ok (.iload 11, 2) := by decide +kernel
theorem dL_told_408 : decode cL_told 408 = .ok (.ifCond .le 28, 3) := by decide +kernel
theorem dL_told_411 : decode cL_told 411 = .ok (.iload 12, 2) := by decide +kernel
theorem dL_told_413 : decode cL_told 413 = .ok (.ifCond .ne 23, 3) := by decide +kernel
theorem dL_told_416 : decode cL_told 416 = .ok (.aload 5, 2) := by decide +kernel
theorem dL_told_418 : decode cL_told 418 = .ok (.bipush 7, 2) := by decide +kernel
theorem dL_told_420 : decode cL_told 420 = .ok (.iaload, 1) := by decide +kernel
theorem dL_told_421 : decode cL_told 421 = .ok (.ifCond .ne 15, 3) := by decide +kernel
theorem dL_told_424 : decode cL_told 424 = .ok (.aload_n 0, 1) := by decide +kernel
theorem dL_told_425 : decode cL_told 425 = .ok (.iload 10, 2) := by decide +kernel
theorem dL_told_427 : decode cL_told 427 = .ok (.iconst 1, 1) := by decide +kernel
theorem dL_told_428 : decode cL_told 428 = .ok (.isub, 1) := by decide +kernel
theorem dL_told_429 : decode cL_told 429 = .ok (.iconst 2, 1) := by decide +kernel
theorem dL_told_430 : decode cL_told 430 = .ok (.invokevirtual 47, 3) := by decide +kernel
theorem dL_told_433 : decode cL_told 433 = .ok (.goto 4, 3) := by decide +kernel
theorem dL_told_436 : decode cL_told 436 = .ok (.iconst 0, 1) := by decide +kernel
theorem dL_told_437 : decode cL_told 437 = .ok (.aload_n 2, 1) := by decide +kernel
theorem dL_told_438 : decode cL_told 438 = .ok (.aload_n 3, 1) := by decide +kernel
theorem dL_told_439 : decode cL_told 439 = .ok (.aload 4, 2) := by decide +kernel
theorem dL_told_441 : decode cL_told 441 = .ok (.aload 6, 2) := by decide +kernel
theorem dL_told_443 : decode cL_told 443 = .ok (.aload 7, 2) := by decide +kernel
theorem dL_told_445 : decode cL_told 445 = .ok (.invokestatic 54, 3) := by decide +kernel
theorem dL_told_448 : decode cL_told 448 = .ok (.ifCond .ne 5, 3) := by decide +kernel
theorem dL_told_451 : decode cL_told 451 = .ok (.iconst 0, 1) := by decide +kernel
theorem dL_told_452 : decode cL_told 452 = .ok (.ireturn, 1) := by decide +kernel
theorem dL_told_453 : decode cL_told 453 = .ok (.aload_n 0, 1) := by decide +kernel
theorem dL_told_454 : decode cL_told 454 = .ok (.aload_n 2, 1) := by decide +kernel
theorem dL_told_455 : decode cL_told 455 = .ok (.aload_n 3, 1) := by decide +kernel
theorem dL_told_456 : decode cL_told 456 = .ok (.aload 4, 2) := by decide +kernel
theorem dL_told_458 : decode cL_told 458 = .ok (.aload 5, 2) := by decide +kernel
theorem dL_told_460 : decode cL_told 460 = .ok (.aload 6, 2) := by decide +kernel
theorem dL_told_462 : decode cL_told 462 = .ok (.aload 8, 2) := by decide +kernel
theorem dL_told_464 : decode cL_told 464 = .ok (.aload 9, 2) := by decide +kernel
theorem dL_told_466 : decode cL_told 466 = .ok (.invokestatic 69, 3) := by decide +kernel
theorem dL_told_469 : decode cL_told 469 = .ok (.ifCond .eq 30, 3) := by decide +kernel
theorem dL_told_472 : decode cL_told 472 = .ok (.aload_n 0, 1) := by decide +kernel
theorem dL_told_473 : decode cL_told 473 = .ok (.iload 10, 2) := by decide +kernel
theorem dL_told_475 : decode cL_told 475 = .ok (.iload 11, 2) := by decide +kernel
theorem dL_told_477 : decode cL_told 477 = .ok (.iload 12, 2) := by decide +kernel
theorem dL_told_479 : decode cL_told 479 = .ok (.aload_n 2, 1) := by decide +kernel
theorem dL_told_480 : decode cL_told 480 = .ok (.aload_n 3, 1) := by decide +kernel
theorem dL_told_481 : decode cL_told 481 = .ok (.aload 4, 2) := by decide +kernel
theorem dL_told_483 : decode cL_told 483 = .ok (.aload 5, 2) := by decide +kernel
theorem dL_told_485 : decode cL_told 485 = .ok (.aload 6, 2) := by decide +kernel
theorem dL_told_487 : decode cL_told 487 = .ok (.aload 8, 2) := by decide +kernel
theorem dL_told_489 : decode cL_told 489 = .ok (.invokestatic 73, 3) := by decide +kernel
theorem dL_told_492 : decode cL_told 492 = .ok (.ifCond .eq 7, 3) := by decide +kernel
theorem dL_told_495 : decode cL_told 495 = .ok (.iconst 1, 1) := by decide +kernel
theorem dL_told_496 : decode cL_told 496 = .ok (.goto 4, 3) := by decide +kernel
theorem dL_told_499 : decode cL_told 499 = .ok (.iconst 0, 1) := by decide +kernel
theorem dL_told_500 : decode cL_told 500 = .ok (.ireturn, 1) := by decide +kernel
theorem pd_L_told : (parseMethodDescriptor yL_told.desc).map (fun d => d.parameters.length) = some 6 := by decide +kernel
def w_L_told (zz : Nat → Nat) (a0 : Nat) (a1 : Int) (a2 : Nat) (a3 : Nat) (a4 : Nat) (a5 : Nat) (h : AH) (Q : Int → AH → Prop) : Prop := ∀ h2 : AH, h2 = nAI h 16 → ∀ x6_4 : Nat, x6_4 = (hn h) → ∀ h8 : AH, h8 = nAI h2 8 → ∀ x7_10 : Nat, x7_10 = (hn h2) → ∀ h14 : AH, h14 = nAI h8 16 → ∀ x8_16 : Nat, x8_16 = (hn h8) → ∀ h20 : AH, h20 = nAI h14 8 → ∀ x9_22 : Nat, x9_22 = (hn h14) → w_L_pairs zz a2 a3 a4 a5 x6_4 h20 (fun  (h32 : AH) => ∃ I_38 : Nat → Int → AH → Prop, (∃ n, n ≤ 1000 ∧ I_38 n (0 : Int) h32) ∧ ∀ (n_38 : Nat) (x10_38 : Int) (h_38 : AH), I_38 n_38 x10_38 h_38 → (okI h_38 a4 (0 : Int) ∧ (((haI h_38 a4 (0 : Int)) ≤ x10_38) → ∃ I_67 : Nat → Int → AH → Prop, (∃ n, n ≤ 1000 ∧ I_67 n (0 : Int) h_38) ∧ ∀ (n_67 : Nat) (x10_67 : Int) (h_67 : AH), I_67 n_67 x10_67 h_67 → (okI h_67 a5 (6 : Int) ∧ (((haI h_67 a5 (6 : Int)) < x10_67) → okI h_67 a4 (0 : Int) ∧ inR ((haI h_67 a4 (0 : Int)) - (1 : Int)) ∧ ∀ x11_118 : Int, x11_118 = ((haI h_67 a4 (0 : Int)) - (1 : Int)) → ∃ I_120 : Nat → Int → Int → AH → Prop, (∃ n, n ≤ 1000 ∧ I_120 n x10_67 x11_118 h_67) ∧ ∀ (n_120 : Nat) (x10_120 : Int) (x11_120 : Int) (h_120 : AH), I_120 n_120 x10_120 x11_120 h_120 → (((x11_120 < 0) → ∃ I_186 : Nat → Int → Int → AH → Prop, (∃ n, n ≤ 1000 ∧ I_186 n x10_120 (0 : Int) h_120) ∧ ∀ (n_186 : Nat) (x10_186 : Int) (x11_186 : Int) (h_186 : AH), I_186 n_186 x10_186 x11_186 h_186 → (w_L_goes zz a3 a4 x6_4 x7_10 h_186 (fun (r193 : Int) (h193 : AH) => jn (fun  (h_215 : AH) => ∃ I_218 : Nat → Int → AH → Prop, (∃ n, n ≤ 1000 ∧ I_218 n (0 : Int) h_215) ∧ ∀ (n_218 : Nat) (x12_218 : Int) (h_218 : AH), I_218 n_218 x12_218 h_218 → (okI h_218 a4 (0 : Int) ∧ (((haI h_218 a4 (0 : Int)) ≤ x12_218) → w_L_move zz a3 a4 a5 x6_4 x7_10 x8_16 h_218 (fun (r280 : Int) (h280 : AH) => inR (a1 + x11_186) ∧ w_L_frame zz a0 x10_186 (a1 + x11_186) (0 : Int) (1 : Int) r280 a2 a3 a4 x6_4 x7_10 h280 (fun (r304 : Int) (h304 : AH) => ((¬ r304 = 0) → inR (x10_186 + 1) ∧ ∀ x10_312 : Int, x10_312 = (x10_186 + 1) → inR (x11_186 + 1) ∧ ∀ x11_315 : Int, x11_315 = (x11_186 + 1) → ∃ m, m < n_186 ∧ I_186 m x10_312 x11_315 h304) ∧ ((r304 = 0) → ((0 : Int) = 0 ∨ (0 : Int) = 1) ∧ Q (0 : Int) h304)))) ∧ ((¬ ((haI h_218 a4 (0 : Int)) ≤ x12_218)) → inR ((2 : Int) * x12_218) ∧ okI h_218 x6_4 ((2 : Int) * x12_218) ∧ jn (fun  (h_263 : AH) => inR (x12_218 + 1) ∧ ∀ x12_263 : Int, x12_263 = (x12_218 + 1) → ∃ m, m < n_218 ∧ I_218 m x12_263 h_263) (fun k_263 : AH → Prop => (((haI h_218 x6_4 ((2 : Int) * x12_218)) < 0) → k_263  h_218) ∧ ((¬ ((haI h_218 x6_4 ((2 : Int) * x12_218)) < 0)) → okI h_218 x7_10 x12_218 ∧ inR ((2 : Int) * x12_218) ∧ okI h_218 x6_4 ((2 : Int) * x12_218) ∧ inR ((2 : Int) * (haI h_218 x6_4 ((2 : Int) * x12_218))) ∧ okI h_218 a3 ((2 : Int) * (haI h_218 x6_4 ((2 : Int) * x12_218))) ∧ (((haI h_218 x7_10 x12_218) = (haI h_218 a3 ((2 : Int) * (haI h_218 x6_4 ((2 : Int) * x12_218))))) → k_263  h_218) ∧ ((¬ ((haI h_218 x7_10 x12_218) = (haI h_218 a3 ((2 : Int) * (haI h_218 x6_4 ((2 : Int) * x12_218)))))) → okW h_218 x9_22 x12_218 ∧ ∀ h262 : AH, h262 = saI h_218 x9_22 (u1 (haI h_218 x9_22) x12_218 x10_186) → k_263  h262)))))) (fun k_215 : AH → Prop => ((¬ r193 = 0) → k_215  h193) ∧ ((r193 = 0) → jn (fun  (h_321 : AH) => ∃ I_327 : Nat → Int → Int → Int → AH → Prop, (∃ n, n ≤ 1000 ∧ I_327 n x10_186 (0 : Int) (0 : Int) h_321) ∧ ∀ (n_327 : Nat) (x10_327 : Int) (x12_327 : Int) (x13_327 : Int) (h_327 : AH), I_327 n_327 x10_327 x12_327 x13_327 h_327 → (okI h_327 a4 (1 : Int) ∧ (((haI h_327 a4 (1 : Int)) ≤ x13_327) → okI h_327 a5 (7 : Int) ∧ inR (x10_327 + (haI h_327 a5 (7 : Int))) ∧ ∀ x10_395 : Int, x10_395 = (x10_327 + (haI h_327 a5 (7 : Int))) → inR (x10_395 - (1 : Int)) ∧ jn (fun (t5_437 : Int) (h_437 : AH) => w_L_frame zz a0 (x10_395 - (1 : Int)) a1 x12_327 (1 : Int) t5_437 a2 a3 a4 x6_4 x7_10 h_437 (fun (r445 : Int) (h445 : AH) => ((¬ r445 = 0) → w_L_letters zz a0 a2 a3 a4 a5 x6_4 x8_16 x9_22 h445 (fun (r466 : Int) (h466 : AH) => jn (fun (t0_500 : Int) (h_500 : AH) => (t0_500 = 0 ∨ t0_500 = 1) ∧ Q t0_500 h_500) (fun k_500 : Int → AH → Prop => jn (fun  (h_499 : AH) => k_500 (0 : Int) h_499) (fun k_499 : AH → Prop => ((r466 = 0) → k_499  h466) ∧ ((¬ (r466 = 0)) → w_L_counts zz a0 x10_395 x11_186 x12_327 a2 a3 a4 a5 x6_4 x8_16 h466 (fun (r489 : Int) (h489 : AH) => ((r489 = 0) → k_499  h489) ∧ ((¬ (r489 = 0)) → k_500 (1 : Int) h489))))))) ∧ ((r445 = 0) → ((0 : Int) = 0 ∨ (0 : Int) = 1) ∧ Q (0 : Int) h445))) (fun k_437 : Int → AH → Prop => jn (fun  (h_436 : AH) => k_437 (0 : Int) h_436) (fun k_436 : AH → Prop => ((x11_186 ≤ 0) → k_436  h_327) ∧ ((¬ (x11_186 ≤ 0)) → ((¬ x12_327 = 0) → k_436  h_327) ∧ ((x12_327 = 0) → okI h_327 a5 (7 : Int) ∧ ((¬ (haI h_327 a5 (7 : Int)) = 0) → k_436  h_327) ∧ (((haI h_327 a5 (7 : Int)) = 0) → inR (x10_395 - (1 : Int)) ∧ okA h_327 a0 6 ∧ w_X6_frame zz a0 (x10_395 - (1 : Int)) (2 : Int) h_327 (fun (r430 : Int) (h430 : AH) => k_437 r430 h430) (fun _ _ => False))))))) ∧ ((¬ ((haI h_327 a4 (1 : Int)) ≤ x13_327)) → w_L_taken zz x13_327 a4 x6_4 h_327 (fun (r342 : Int) (h342 : AH) => jn (fun (x10_381 : Int) (x12_381 : Int) (h_381 : AH) => inR (x13_327 + 1) ∧ ∀ x13_381 : Int, x13_381 = (x13_327 + 1) → ∃ m, m < n_327 ∧ I_327 m x10_381 x12_381 x13_381 h_381) (fun k_381 : Int → Int → AH → Prop => ((r342 = 0) → inR (x12_327 + 1) ∧ ∀ x12_351 : Int, x12_351 = (x12_327 + 1) → inR (x10_327 + 1) ∧ ∀ x10_357 : Int, x10_357 = (x10_327 + 1) → w_L_frame zz a0 x10_327 a1 x12_351 (1 : Int) (0 : Int) a2 a3 a4 x6_4 x7_10 h342 (fun (r373 : Int) (h373 : AH) => ((¬ r373 = 0) → k_381 x10_357 x12_351 h373) ∧ ((r373 = 0) → ((0 : Int) = 0 ∨ (0 : Int) = 1) ∧ Q (0 : Int) h373))) ∧ ((¬ (r342 = 0)) → k_381 x10_327 x12_327 h342)))))) (fun k_321 : AH → Prop => ((¬ x11_186 = 0) → k_321  h193) ∧ ((x11_186 = 0) → w_L_many zz (3 : Int) a4 x6_4 h193 (fun (r209 : Int) (h209 : AH) => ((r209 ≤ 0) → k_321  h209) ∧ ((¬ (r209 ≤ 0)) → k_215  h209))))))))) ∧ ((¬ (x11_120 < 0)) → inR ((2 : Int) * x11_120) ∧ okI h_120 x6_4 ((2 : Int) * x11_120) ∧ jn (fun (x10_177 : Int) (h_177 : AH) => inR (x11_120 + (-1)) ∧ ∀ x11_177 : Int, x11_177 = (x11_120 + (-1)) → ∃ m, m < n_120 ∧ I_120 m x10_177 x11_177 h_177) (fun k_177 : Int → AH → Prop => (((haI h_120 x6_4 ((2 : Int) * x11_120)) < 0) → okW h_120 x7_10 x11_120 ∧ ∀ h143 : AH, h143 = saI h_120 x7_10 (u1 (haI h_120 x7_10) x11_120 (-1 : Int)) → okW h143 x9_22 x11_120 ∧ ∀ h150 : AH, h150 = saI h143 x9_22 (u1 (haI h143 x9_22) x11_120 x10_120) → inR (x10_120 + 1) ∧ ∀ x10_154 : Int, x10_154 = (x10_120 + 1) → w_L_frame zz a0 x10_120 a1 (0 : Int) (0 : Int) (0 : Int) a2 a3 a4 x6_4 x7_10 h150 (fun (r169 : Int) (h169 : AH) => ((¬ r169 = 0) → k_177 x10_154 h169) ∧ ((r169 = 0) → ((0 : Int) = 0 ∨ (0 : Int) = 1) ∧ Q (0 : Int) h169))) ∧ ((¬ ((haI h_120 x6_4 ((2 : Int) * x11_120)) < 0)) → k_177 x10_120 h_120))))) ∧ ((¬ ((haI h_67 a5 (6 : Int)) < x10_67)) → jn (fun  (h_106 : AH) => inR (x10_67 + 1) ∧ ∀ x10_106 : Int, x10_106 = (x10_67 + 1) → ∃ m, m < n_67 ∧ I_67 m x10_106 h_106) (fun k_106 : AH → Prop => (((2 : Int) ≤ x10_67) → k_106  h_67) ∧ ((¬ ((2 : Int) ≤ x10_67)) → w_L_frame zz a0 x10_67 a1 (0 : Int) (0 : Int) (0 : Int) a2 a3 a4 x6_4 x7_10 h_67 (fun (r98 : Int) (h98 : AH) => ((¬ r98 = 0) → k_106  h98) ∧ ((r98 = 0) → ((0 : Int) = 0 ∨ (0 : Int) = 1) ∧ Q (0 : Int) h98))))))) ∧ ((¬ ((haI h_38 a4 (0 : Int)) ≤ x10_38)) → inR ((2 : Int) * x10_38) ∧ okI h_38 a2 ((2 : Int) * x10_38) ∧ okW h_38 x7_10 x10_38 ∧ ∀ h57 : AH, h57 = saI h_38 x7_10 (u1 (haI h_38 x7_10) x10_38 (haI h_38 a2 ((2 : Int) * x10_38))) → inR (x10_38 + 1) ∧ ∀ x10_58 : Int, x10_58 = (x10_38 + 1) → ∃ m, m < n_38 ∧ I_38 m x10_58 h57)))
set_option maxRecDepth 100000 in
set_option maxHeartbeats 4000000 in
theorem met_L_told (G : GG) (l : Launch) : ∀ (As : List Value) (a0 : Nat) (a1 : Int) (a2 : Nat) (a3 : Nat) (a4 : Nat) (a5 : Nat) (h : AH) (Q : Int → AH → Prop), As.map ab = List.map some ([vR a0, vI a1, vR a2, vR a3, vR a4, vR a5] : List AV) → w_L_told G.2.2 a0 a1 a2 a3 a4 a5 h Q → Met l yL_told (.code yL_told cL_told 14 (some .boolean) :: xTb) ({ frames := 8, cells := 6, slots := 64, locals := 195 } : Room) (PcA G As h) (QG G (oI Q)) 6 64 (frA G) := by
  intro As a0 a1 a2 a3 a4 a5 h Q hA hw
  refine met_of hA (by decide) (Nat.le_of_ble_eq_true rfl) (fun p e s m args below meth c C hml hr hnm => ?_)
  unfold w_L_told at hw
  refine aw_bipush (pc := 0) C dL_told_0 (i := (16 : Int)) (by decide) ?_
  refine aw_newI (pc := 2) (n := 16) C tw57 dL_told_2 (Nat.le_of_ble_eq_true rfl) (by show _ ≤ (6 : Nat); omega) (by show _ ≤ (64 : Nat); omega) (aw_nmH (fun h2 e9 => ?_))
  have hw := hw h2 e9
  refine aw_nmR (fun x6_4 e9 => ?_)
  have hw := hw x6_4 e9
  refine aw_astore (pc := 4) C dL_told_4 (by rw [hml]; decide) ?_
  refine aw_bipush (pc := 6) C dL_told_6 (i := (8 : Int)) (by decide) ?_
  refine aw_newI (pc := 8) (n := 8) C tw57 dL_told_8 (Nat.le_of_ble_eq_true rfl) (by show _ ≤ (6 : Nat); omega) (by show _ ≤ (64 : Nat); omega) (aw_nmH (fun h8 e9 => ?_))
  have hw := hw h8 e9
  refine aw_nmR (fun x7_10 e9 => ?_)
  have hw := hw x7_10 e9
  refine aw_astore (pc := 10) C dL_told_10 (by rw [hml]; decide) ?_
  refine aw_bipush (pc := 12) C dL_told_12 (i := (16 : Int)) (by decide) ?_
  refine aw_newI (pc := 14) (n := 16) C tw57 dL_told_14 (Nat.le_of_ble_eq_true rfl) (by show _ ≤ (6 : Nat); omega) (by show _ ≤ (64 : Nat); omega) (aw_nmH (fun h14 e9 => ?_))
  have hw := hw h14 e9
  refine aw_nmR (fun x8_16 e9 => ?_)
  have hw := hw x8_16 e9
  refine aw_astore (pc := 16) C dL_told_16 (by rw [hml]; decide) ?_
  refine aw_bipush (pc := 18) C dL_told_18 (i := (8 : Int)) (by decide) ?_
  refine aw_newI (pc := 20) (n := 8) C tw57 dL_told_20 (Nat.le_of_ble_eq_true rfl) (by show _ ≤ (6 : Nat); omega) (by show _ ≤ (64 : Nat); omega) (aw_nmH (fun h20 e9 => ?_))
  have hw := hw h20 e9
  refine aw_nmR (fun x9_22 e9 => ?_)
  have hw := hw x9_22 e9
  refine aw_astore (pc := 22) C dL_told_22 (by rw [hml]; decide) ?_
  refine aw_aload_n (pc := 24) C dL_told_24 rfl rfl ?_
  refine aw_aload_n (pc := 25) C dL_told_25 rfl rfl ?_
  refine aw_aload (pc := 26) C dL_told_26 rfl ?_
  refine aw_aload (pc := 28) C dL_told_28 rfl ?_
  refine aw_aload (pc := 30) C dL_told_30 rfl ?_
  refine aw_callS (pc := 32) (as := [vR a2, vR a3, vR a4, vR a5, vR x6_4]) C (fun As hA => met_L_pairs G l As a2 a3 a4 a5 x6_4 _ _ hA hw) tw453 tw454 tw0 tw455 ⟨rfl, rfl⟩ ⟨by decide, by decide, pd_L_pairs⟩ ⟨Nat.le_of_ble_eq_true rfl, Nat.le_of_ble_eq_true rfl⟩ ⟨(by show _ ≤ (6 : Nat); omega), (by show _ ≤ (64 : Nat); omega)⟩ (Nat.le_of_ble_eq_true rfl) dL_told_32 rfl (fun v9 h32 hq9 => ?_)
  obtain ⟨rfl, hw⟩ := hq9
  refine aw_iconst (pc := 35) C dL_told_35 (i := (0 : Int)) (by decide) ?_
  refine aw_istore (pc := 36) C dL_told_36 (by rw [hml]; decide) ?_
  obtain ⟨I_38, ⟨n9, hn9, hi9⟩, hst9⟩ := hw
  have L_38 : ∀ (n_38 : Nat) (x10_38 : Int) (h_38 : AH) (bc9 bs9 : Nat), I_38 n_38 x10_38 h_38 → bc9 + 0 * n_38 + 0 ≤ 6 → bs9 + 0 * n_38 + 0 ≤ 64 → AW G p l e ({ frames := 8, cells := 6, slots := 64, locals := 195 } : Room) s m args below meth c bc9 bs9 (MQ below (QG G (oI Q)) args s 6 64 (frA G)) 38 (eOf [(0, vR a0), (1, vI a1), (2, vR a2), (3, vR a3), (4, vR a4), (5, vR a5), (6, vR x6_4), (7, vR x7_10), (8, vR x8_16), (9, vR x9_22), (10, vI x10_38)]) [] h_38 := by
    intro n_38
    induction n_38 using Nat.strongRecOn with
    | _ n_38 ih_38 =>
    intro x10_38 h_38 bc9 bs9 hi9 hb9 hs9
    have hw := hst9 n_38 x10_38 h_38 hi9
    refine aw_iload (pc := 38) C dL_told_38 rfl ?_
    refine aw_aload (pc := 40) C dL_told_40 rfl ?_
    refine aw_iconst (pc := 42) C dL_told_42 (i := (0 : Int)) (by decide) ?_
    obtain ⟨⟨k9, hp9⟩, hw⟩ := hw
    refine aw_iald (pc := 43) C dL_told_43 hp9 ?_
    refine aw_icmp_ge (pc := 44) (tgt := 64) C dL_told_44 (by decide) (fun hc9 => ?_) (fun hc9 => ?_)
    · have hw := hw.1 hc9
      refine aw_iconst (pc := 64) C dL_told_64 (i := (0 : Int)) (by decide) ?_
      refine aw_istore (pc := 65) C dL_told_65 (by rw [hml]; decide) ?_
      obtain ⟨I_67, ⟨n9, hn9, hi9⟩, hst9⟩ := hw
      have L_67 : ∀ (n_67 : Nat) (x10_67 : Int) (h_67 : AH) (bc9 bs9 : Nat), I_67 n_67 x10_67 h_67 → bc9 + 0 * n_67 + 0 ≤ 6 → bs9 + 0 * n_67 + 0 ≤ 64 → AW G p l e ({ frames := 8, cells := 6, slots := 64, locals := 195 } : Room) s m args below meth c bc9 bs9 (MQ below (QG G (oI Q)) args s 6 64 (frA G)) 67 (eOf [(0, vR a0), (1, vI a1), (2, vR a2), (3, vR a3), (4, vR a4), (5, vR a5), (6, vR x6_4), (7, vR x7_10), (8, vR x8_16), (9, vR x9_22), (10, vI x10_67)]) [] h_67 := by
        intro n_67
        induction n_67 using Nat.strongRecOn with
        | _ n_67 ih_67 =>
        intro x10_67 h_67 bc9 bs9 hi9 hb9 hs9
        have hw := hst9 n_67 x10_67 h_67 hi9
        refine aw_iload (pc := 67) C dL_told_67 rfl ?_
        refine aw_aload (pc := 69) C dL_told_69 rfl ?_
        refine aw_bipush (pc := 71) C dL_told_71 (i := (6 : Int)) (by decide) ?_
        obtain ⟨⟨k9, hp9⟩, hw⟩ := hw
        refine aw_iald (pc := 73) C dL_told_73 hp9 ?_
        refine aw_icmp_gt (pc := 74) (tgt := 112) C dL_told_74 (by decide) (fun hc9 => ?_) (fun hc9 => ?_)
        · have hw := hw.1 hc9
          refine aw_aload (pc := 112) C dL_told_112 rfl ?_
          refine aw_iconst (pc := 114) C dL_told_114 (i := (0 : Int)) (by decide) ?_
          obtain ⟨⟨k9, hp9⟩, hw⟩ := hw
          refine aw_iald (pc := 115) C dL_told_115 hp9 ?_
          refine aw_iconst (pc := 116) C dL_told_116 (i := (1 : Int)) (by decide) ?_
          obtain ⟨hp9, hw⟩ := hw
          refine aw_isub (pc := 117) C dL_told_117 hp9 ?_
          refine aw_nmI (fun x11_118 e9 => ?_)
          have hw := hw x11_118 e9
          refine aw_istore (pc := 118) C dL_told_118 (by rw [hml]; decide) ?_
          obtain ⟨I_120, ⟨n9, hn9, hi9⟩, hst9⟩ := hw
          have L_120 : ∀ (n_120 : Nat) (x10_120 : Int) (x11_120 : Int) (h_120 : AH) (bc9 bs9 : Nat), I_120 n_120 x10_120 x11_120 h_120 → bc9 + 0 * n_120 + 0 ≤ 6 → bs9 + 0 * n_120 + 0 ≤ 64 → AW G p l e ({ frames := 8, cells := 6, slots := 64, locals := 195 } : Room) s m args below meth c bc9 bs9 (MQ below (QG G (oI Q)) args s 6 64 (frA G)) 120 (eOf [(0, vR a0), (1, vI a1), (2, vR a2), (3, vR a3), (4, vR a4), (5, vR a5), (6, vR x6_4), (7, vR x7_10), (8, vR x8_16), (9, vR x9_22), (10, vI x10_120), (11, vI x11_120)]) [] h_120 := by
            intro n_120
            induction n_120 using Nat.strongRecOn with
            | _ n_120 ih_120 =>
            intro x10_120 x11_120 h_120 bc9 bs9 hi9 hb9 hs9
            have hw := hst9 n_120 x10_120 x11_120 h_120 hi9
            refine aw_iload (pc := 120) C dL_told_120 rfl ?_
            refine aw_if_lt (pc := 122) (tgt := 183) C dL_told_122 (by decide) (fun hc9 => ?_) (fun hc9 => ?_)
            · have hw := hw.1 hc9
              refine aw_iconst (pc := 183) C dL_told_183 (i := (0 : Int)) (by decide) ?_
              refine aw_istore (pc := 184) C dL_told_184 (by rw [hml]; decide) ?_
              obtain ⟨I_186, ⟨n9, hn9, hi9⟩, hst9⟩ := hw
              have L_186 : ∀ (n_186 : Nat) (x10_186 : Int) (x11_186 : Int) (h_186 : AH) (bc9 bs9 : Nat), I_186 n_186 x10_186 x11_186 h_186 → bc9 + 0 * n_186 + 0 ≤ 6 → bs9 + 0 * n_186 + 0 ≤ 64 → AW G p l e ({ frames := 8, cells := 6, slots := 64, locals := 195 } : Room) s m args below meth c bc9 bs9 (MQ below (QG G (oI Q)) args s 6 64 (frA G)) 186 (eOf [(0, vR a0), (1, vI a1), (2, vR a2), (3, vR a3), (4, vR a4), (5, vR a5), (6, vR x6_4), (7, vR x7_10), (8, vR x8_16), (9, vR x9_22), (10, vI x10_186), (11, vI x11_186)]) [] h_186 := by
                intro n_186
                induction n_186 using Nat.strongRecOn with
                | _ n_186 ih_186 =>
                intro x10_186 x11_186 h_186 bc9 bs9 hi9 hb9 hs9
                have hw := hst9 n_186 x10_186 x11_186 h_186 hi9
                refine aw_aload_n (pc := 186) C dL_told_186 rfl rfl ?_
                refine aw_aload (pc := 187) C dL_told_187 rfl ?_
                refine aw_aload (pc := 189) C dL_told_189 rfl ?_
                refine aw_aload (pc := 191) C dL_told_191 rfl ?_
                refine aw_callS (pc := 193) (as := [vR a3, vR a4, vR x6_4, vR x7_10]) C (fun As hA => met_L_goes G l As a3 a4 x6_4 x7_10 _ _ hA hw) tw585 tw586 tw0 tw587 ⟨rfl, rfl⟩ ⟨by decide, by decide, pd_L_goes⟩ ⟨Nat.le_of_ble_eq_true rfl, Nat.le_of_ble_eq_true rfl⟩ ⟨(by show _ ≤ (6 : Nat); omega), (by show _ ≤ (64 : Nat); omega)⟩ (Nat.le_of_ble_eq_true rfl) dL_told_193 rfl (fun v9 h193 hq9 => ?_)
                obtain ⟨r193, rfl, hw⟩ := hq9
                obtain ⟨k_215, hk_215, hw⟩ := jn_out hw
                have J_215 : ∀  (h_215 : AH) (bc8 bs8 : Nat), k_215  h_215 → bc8 ≤ 6 → bs8 ≤ 64 → AW G p l e ({ frames := 8, cells := 6, slots := 64, locals := 195 } : Room) s m args below meth c bc8 bs8 (MQ below (QG G (oI Q)) args s 6 64 (frA G)) 215 (eOf [(0, vR a0), (1, vI a1), (2, vR a2), (3, vR a3), (4, vR a4), (5, vR a5), (6, vR x6_4), (7, vR x7_10), (8, vR x8_16), (9, vR x9_22), (10, vI x10_186), (11, vI x11_186)]) [] h_215 := by
                  intro  h_215 bc8 bs8 hw hb8 hs8
                  rw [hk_215] at hw
                  refine aw_iconst (pc := 215) C dL_told_215 (i := (0 : Int)) (by decide) ?_
                  refine aw_istore (pc := 216) C dL_told_216 (by rw [hml]; decide) ?_
                  obtain ⟨I_218, ⟨n9, hn9, hi9⟩, hst9⟩ := hw
                  have L_218 : ∀ (n_218 : Nat) (x12_218 : Int) (h_218 : AH) (bc9 bs9 : Nat), I_218 n_218 x12_218 h_218 → bc9 + 0 * n_218 + 0 ≤ 6 → bs9 + 0 * n_218 + 0 ≤ 64 → AW G p l e ({ frames := 8, cells := 6, slots := 64, locals := 195 } : Room) s m args below meth c bc9 bs9 (MQ below (QG G (oI Q)) args s 6 64 (frA G)) 218 (eOf [(0, vR a0), (1, vI a1), (2, vR a2), (3, vR a3), (4, vR a4), (5, vR a5), (6, vR x6_4), (7, vR x7_10), (8, vR x8_16), (9, vR x9_22), (10, vI x10_186), (11, vI x11_186), (12, vI x12_218)]) [] h_218 := by
                    intro n_218
                    induction n_218 using Nat.strongRecOn with
                    | _ n_218 ih_218 =>
                    intro x12_218 h_218 bc9 bs9 hi9 hb9 hs9
                    have hw := hst9 n_218 x12_218 h_218 hi9
                    refine aw_iload (pc := 218) C dL_told_218 rfl ?_
                    refine aw_aload (pc := 220) C dL_told_220 rfl ?_
                    refine aw_iconst (pc := 222) C dL_told_222 (i := (0 : Int)) (by decide) ?_
                    obtain ⟨⟨k9, hp9⟩, hw⟩ := hw
                    refine aw_iald (pc := 223) C dL_told_223 hp9 ?_
                    refine aw_icmp_ge (pc := 224) (tgt := 269) C dL_told_224 (by decide) (fun hc9 => ?_) (fun hc9 => ?_)
                    · have hw := hw.1 hc9
                      refine aw_aload_n (pc := 269) C dL_told_269 rfl rfl ?_
                      refine aw_aload (pc := 270) C dL_told_270 rfl ?_
                      refine aw_aload (pc := 272) C dL_told_272 rfl ?_
                      refine aw_aload (pc := 274) C dL_told_274 rfl ?_
                      refine aw_aload (pc := 276) C dL_told_276 rfl ?_
                      refine aw_aload (pc := 278) C dL_told_278 rfl ?_
                      refine aw_callS (pc := 280) (as := [vR a3, vR a4, vR a5, vR x6_4, vR x7_10, vR x8_16]) C (fun As hA => met_L_move G l As a3 a4 a5 x6_4 x7_10 x8_16 _ _ hA hw) tw591 tw592 tw0 tw593 ⟨rfl, rfl⟩ ⟨by decide, by decide, pd_L_move⟩ ⟨Nat.le_of_ble_eq_true rfl, Nat.le_of_ble_eq_true rfl⟩ ⟨(by show _ ≤ (6 : Nat); omega), (by show _ ≤ (64 : Nat); omega)⟩ (Nat.le_of_ble_eq_true rfl) dL_told_280 rfl (fun v9 h280 hq9 => ?_)
                      obtain ⟨r280, rfl, hw⟩ := hq9
                      refine aw_istore (pc := 283) C dL_told_283 (by rw [hml]; decide) ?_
                      refine aw_aload_n (pc := 285) C dL_told_285 rfl rfl ?_
                      refine aw_iload (pc := 286) C dL_told_286 rfl ?_
                      refine aw_iload_n (pc := 288) C dL_told_288 rfl rfl ?_
                      refine aw_iload (pc := 289) C dL_told_289 rfl ?_
                      obtain ⟨hp9, hw⟩ := hw
                      refine aw_iadd (pc := 291) C dL_told_291 hp9 ?_
                      refine aw_iconst (pc := 292) C dL_told_292 (i := (0 : Int)) (by decide) ?_
                      refine aw_iconst (pc := 293) C dL_told_293 (i := (1 : Int)) (by decide) ?_
                      refine aw_iload (pc := 294) C dL_told_294 rfl ?_
                      refine aw_aload_n (pc := 296) C dL_told_296 rfl rfl ?_
                      refine aw_aload_n (pc := 297) C dL_told_297 rfl rfl ?_
                      refine aw_aload (pc := 298) C dL_told_298 rfl ?_
                      refine aw_aload (pc := 300) C dL_told_300 rfl ?_
                      refine aw_aload (pc := 302) C dL_told_302 rfl ?_
                      refine aw_callS (pc := 304) (as := [vR a0, vI x10_186, vI (a1 + x11_186), vI (0 : Int), vI (1 : Int), vI r280, vR a2, vR a3, vR a4, vR x6_4, vR x7_10]) C (fun As hA => met_L_frame G l As a0 x10_186 (a1 + x11_186) (0 : Int) (1 : Int) r280 a2 a3 a4 x6_4 x7_10 _ _ hA hw) tw471 tw472 tw0 tw473 ⟨rfl, rfl⟩ ⟨by decide, by decide, pd_L_frame⟩ ⟨Nat.le_of_ble_eq_true rfl, Nat.le_of_ble_eq_true rfl⟩ ⟨(by show _ ≤ (6 : Nat); omega), (by show _ ≤ (64 : Nat); omega)⟩ (Nat.le_of_ble_eq_true rfl) dL_told_304 rfl (fun v9 h304 hq9 => ?_)
                      obtain ⟨r304, rfl, hw⟩ := hq9
                      refine aw_if_ne (pc := 307) (tgt := 312) C dL_told_307 (by decide) (fun hc9 => ?_) (fun hc9 => ?_)
                      · have hw := hw.1 hc9
                        obtain ⟨hp9, hw⟩ := hw
                        refine aw_iincN (pc := 312) C dL_told_312 (k := 1) (by decide) rfl (by rw [hml]; decide) hp9 (fun x10_312 e9 => ?_)
                        have hw := hw x10_312 e9
                        obtain ⟨hp9, hw⟩ := hw
                        refine aw_iincN (pc := 315) C dL_told_315 (k := 1) (by decide) rfl (by rw [hml]; decide) hp9 (fun x11_315 e9 => ?_)
                        have hw := hw x11_315 e9
                        refine aw_goto (pc := 318) (tgt := 186) C dL_told_318 (by decide) ?_
                        obtain ⟨m9, hm9, hw⟩ := hw
                        refine aw_sub [(0, vR a0), (1, vI a1), (2, vR a2), (3, vR a3), (4, vR a4), (5, vR a5), (6, vR x6_4), (7, vR x7_10), (8, vR x8_16), (9, vR x9_22), (10, vI x10_312), (11, vI x11_315)] ⟨rfl, rfl, rfl, rfl, rfl, rfl, rfl, rfl, rfl, rfl, rfl, rfl, trivial⟩ ?_
                        exact ih_186 m9 hm9 _ _ _ _ _ hw (by omega) (by omega)
                      · have hw := hw.2 hc9
                        refine aw_iconst (pc := 310) C dL_told_310 (i := (0 : Int)) (by decide) ?_
                        obtain ⟨hp9, hw⟩ := hw
                        exact aw_zret (pc := 311) C hr dL_told_311 ⟨by omega, by omega⟩ hp9 ⟨_, rfl, hw⟩
                    · have hw := hw.2 hc9
                      refine aw_aload (pc := 227) C dL_told_227 rfl ?_
                      refine aw_iconst (pc := 229) C dL_told_229 (i := (2 : Int)) (by decide) ?_
                      refine aw_iload (pc := 230) C dL_told_230 rfl ?_
                      obtain ⟨hp9, hw⟩ := hw
                      refine aw_imul (pc := 232) C dL_told_232 hp9 ?_
                      obtain ⟨⟨k9, hp9⟩, hw⟩ := hw
                      refine aw_iald (pc := 233) C dL_told_233 hp9 ?_
                      obtain ⟨k_263, hk_263, hw⟩ := jn_out hw
                      have J_263 : ∀  (h_263 : AH) (bc8 bs8 : Nat), k_263  h_263 → bc8 ≤ 6 → bs8 ≤ 64 → AW G p l e ({ frames := 8, cells := 6, slots := 64, locals := 195 } : Room) s m args below meth c bc8 bs8 (MQ below (QG G (oI Q)) args s 6 64 (frA G)) 263 (eOf [(0, vR a0), (1, vI a1), (2, vR a2), (3, vR a3), (4, vR a4), (5, vR a5), (6, vR x6_4), (7, vR x7_10), (8, vR x8_16), (9, vR x9_22), (10, vI x10_186), (11, vI x11_186), (12, vI x12_218)]) [] h_263 := by
                        intro  h_263 bc8 bs8 hw hb8 hs8
                        rw [hk_263] at hw
                        obtain ⟨hp9, hw⟩ := hw
                        refine aw_iincN (pc := 263) C dL_told_263 (k := 1) (by decide) rfl (by rw [hml]; decide) hp9 (fun x12_263 e9 => ?_)
                        have hw := hw x12_263 e9
                        refine aw_goto (pc := 266) (tgt := 218) C dL_told_266 (by decide) ?_
                        obtain ⟨m9, hm9, hw⟩ := hw
                        refine aw_sub [(0, vR a0), (1, vI a1), (2, vR a2), (3, vR a3), (4, vR a4), (5, vR a5), (6, vR x6_4), (7, vR x7_10), (8, vR x8_16), (9, vR x9_22), (10, vI x10_186), (11, vI x11_186), (12, vI x12_263)] ⟨rfl, rfl, rfl, rfl, rfl, rfl, rfl, rfl, rfl, rfl, rfl, rfl, rfl, trivial⟩ ?_
                        exact ih_218 m9 hm9 _ _ _ _ hw (by omega) (by omega)
                      refine aw_if_lt (pc := 234) (tgt := 263) C dL_told_234 (by decide) (fun hc9 => ?_) (fun hc9 => ?_)
                      · have hw := hw.1 hc9
                        refine aw_sub [(0, vR a0), (1, vI a1), (2, vR a2), (3, vR a3), (4, vR a4), (5, vR a5), (6, vR x6_4), (7, vR x7_10), (8, vR x8_16), (9, vR x9_22), (10, vI x10_186), (11, vI x11_186), (12, vI x12_218)] ⟨rfl, rfl, rfl, rfl, rfl, rfl, rfl, rfl, rfl, rfl, rfl, rfl, rfl, trivial⟩ ?_
                        exact J_263  _ _ _ hw (by omega) (by omega)
                      · have hw := hw.2 hc9
                        refine aw_aload (pc := 237) C dL_told_237 rfl ?_
                        refine aw_iload (pc := 239) C dL_told_239 rfl ?_
                        obtain ⟨⟨k9, hp9⟩, hw⟩ := hw
                        refine aw_iald (pc := 241) C dL_told_241 hp9 ?_
                        refine aw_aload_n (pc := 242) C dL_told_242 rfl rfl ?_
                        refine aw_iconst (pc := 243) C dL_told_243 (i := (2 : Int)) (by decide) ?_
                        refine aw_aload (pc := 244) C dL_told_244 rfl ?_
                        refine aw_iconst (pc := 246) C dL_told_246 (i := (2 : Int)) (by decide) ?_
                        refine aw_iload (pc := 247) C dL_told_247 rfl ?_
                        obtain ⟨hp9, hw⟩ := hw
                        refine aw_imul (pc := 249) C dL_told_249 hp9 ?_
                        obtain ⟨⟨k9, hp9⟩, hw⟩ := hw
                        refine aw_iald (pc := 250) C dL_told_250 hp9 ?_
                        obtain ⟨hp9, hw⟩ := hw
                        refine aw_imul (pc := 251) C dL_told_251 hp9 ?_
                        obtain ⟨⟨k9, hp9⟩, hw⟩ := hw
                        refine aw_iald (pc := 252) C dL_told_252 hp9 ?_
                        refine aw_icmp_eq (pc := 253) (tgt := 263) C dL_told_253 (by decide) (fun hc9 => ?_) (fun hc9 => ?_)
                        · have hw := hw.1 hc9
                          refine aw_sub [(0, vR a0), (1, vI a1), (2, vR a2), (3, vR a3), (4, vR a4), (5, vR a5), (6, vR x6_4), (7, vR x7_10), (8, vR x8_16), (9, vR x9_22), (10, vI x10_186), (11, vI x11_186), (12, vI x12_218)] ⟨rfl, rfl, rfl, rfl, rfl, rfl, rfl, rfl, rfl, rfl, rfl, rfl, rfl, trivial⟩ ?_
                          exact J_263  _ _ _ hw (by omega) (by omega)
                        · have hw := hw.2 hc9
                          refine aw_aload (pc := 256) C dL_told_256 rfl ?_
                          refine aw_iload (pc := 258) C dL_told_258 rfl ?_
                          refine aw_iload (pc := 260) C dL_told_260 rfl ?_
                          obtain ⟨⟨k9, hp9⟩, hw⟩ := hw
                          refine aw_iast (pc := 262) C dL_told_262 hp9 (aw_nmH (fun h262 e9 => ?_))
                          have hw := hw h262 e9
                          refine aw_sub [(0, vR a0), (1, vI a1), (2, vR a2), (3, vR a3), (4, vR a4), (5, vR a5), (6, vR x6_4), (7, vR x7_10), (8, vR x8_16), (9, vR x9_22), (10, vI x10_186), (11, vI x11_186), (12, vI x12_218)] ⟨rfl, rfl, rfl, rfl, rfl, rfl, rfl, rfl, rfl, rfl, rfl, rfl, rfl, trivial⟩ ?_
                          exact J_263  _ _ _ hw (by omega) (by omega)
                  refine aw_sub [(0, vR a0), (1, vI a1), (2, vR a2), (3, vR a3), (4, vR a4), (5, vR a5), (6, vR x6_4), (7, vR x7_10), (8, vR x8_16), (9, vR x9_22), (10, vI x10_186), (11, vI x11_186), (12, vI (0 : Int))] ⟨rfl, rfl, rfl, rfl, rfl, rfl, rfl, rfl, rfl, rfl, rfl, rfl, rfl, trivial⟩ ?_
                  exact L_218 n9 _ _ _ _ hi9 (by omega) (by omega)
                refine aw_if_ne (pc := 196) (tgt := 215) C dL_told_196 (by decide) (fun hc9 => ?_) (fun hc9 => ?_)
                · have hw := hw.1 hc9
                  refine aw_sub [(0, vR a0), (1, vI a1), (2, vR a2), (3, vR a3), (4, vR a4), (5, vR a5), (6, vR x6_4), (7, vR x7_10), (8, vR x8_16), (9, vR x9_22), (10, vI x10_186), (11, vI x11_186)] ⟨rfl, rfl, rfl, rfl, rfl, rfl, rfl, rfl, rfl, rfl, rfl, rfl, trivial⟩ ?_
                  exact J_215  _ _ _ hw (by omega) (by omega)
                · have hw := hw.2 hc9
                  refine aw_iload (pc := 199) C dL_told_199 rfl ?_
                  obtain ⟨k_321, hk_321, hw⟩ := jn_out hw
                  have J_321 : ∀  (h_321 : AH) (bc8 bs8 : Nat), k_321  h_321 → bc8 ≤ 6 → bs8 ≤ 64 → AW G p l e ({ frames := 8, cells := 6, slots := 64, locals := 195 } : Room) s m args below meth c bc8 bs8 (MQ below (QG G (oI Q)) args s 6 64 (frA G)) 321 (eOf [(0, vR a0), (1, vI a1), (2, vR a2), (3, vR a3), (4, vR a4), (5, vR a5), (6, vR x6_4), (7, vR x7_10), (8, vR x8_16), (9, vR x9_22), (10, vI x10_186), (11, vI x11_186)]) [] h_321 := by
                    intro  h_321 bc8 bs8 hw hb8 hs8
                    rw [hk_321] at hw
                    refine aw_iconst (pc := 321) C dL_told_321 (i := (0 : Int)) (by decide) ?_
                    refine aw_istore (pc := 322) C dL_told_322 (by rw [hml]; decide) ?_
                    refine aw_iconst (pc := 324) C dL_told_324 (i := (0 : Int)) (by decide) ?_
                    refine aw_istore (pc := 325) C dL_told_325 (by rw [hml]; decide) ?_
                    obtain ⟨I_327, ⟨n9, hn9, hi9⟩, hst9⟩ := hw
                    have L_327 : ∀ (n_327 : Nat) (x10_327 : Int) (x12_327 : Int) (x13_327 : Int) (h_327 : AH) (bc9 bs9 : Nat), I_327 n_327 x10_327 x12_327 x13_327 h_327 → bc9 + 0 * n_327 + 0 ≤ 6 → bs9 + 0 * n_327 + 0 ≤ 64 → AW G p l e ({ frames := 8, cells := 6, slots := 64, locals := 195 } : Room) s m args below meth c bc9 bs9 (MQ below (QG G (oI Q)) args s 6 64 (frA G)) 327 (eOf [(0, vR a0), (1, vI a1), (2, vR a2), (3, vR a3), (4, vR a4), (5, vR a5), (6, vR x6_4), (7, vR x7_10), (8, vR x8_16), (9, vR x9_22), (10, vI x10_327), (11, vI x11_186), (12, vI x12_327), (13, vI x13_327)]) [] h_327 := by
                      intro n_327
                      induction n_327 using Nat.strongRecOn with
                      | _ n_327 ih_327 =>
                      intro x10_327 x12_327 x13_327 h_327 bc9 bs9 hi9 hb9 hs9
                      have hw := hst9 n_327 x10_327 x12_327 x13_327 h_327 hi9
                      refine aw_iload (pc := 327) C dL_told_327 rfl ?_
                      refine aw_aload (pc := 329) C dL_told_329 rfl ?_
                      refine aw_iconst (pc := 331) C dL_told_331 (i := (1 : Int)) (by decide) ?_
                      obtain ⟨⟨k9, hp9⟩, hw⟩ := hw
                      refine aw_iald (pc := 332) C dL_told_332 hp9 ?_
                      refine aw_icmp_ge (pc := 333) (tgt := 387) C dL_told_333 (by decide) (fun hc9 => ?_) (fun hc9 => ?_)
                      · have hw := hw.1 hc9
                        refine aw_iload (pc := 387) C dL_told_387 rfl ?_
                        refine aw_aload (pc := 389) C dL_told_389 rfl ?_
                        refine aw_bipush (pc := 391) C dL_told_391 (i := (7 : Int)) (by decide) ?_
                        obtain ⟨⟨k9, hp9⟩, hw⟩ := hw
                        refine aw_iald (pc := 393) C dL_told_393 hp9 ?_
                        obtain ⟨hp9, hw⟩ := hw
                        refine aw_iadd (pc := 394) C dL_told_394 hp9 ?_
                        refine aw_nmI (fun x10_395 e9 => ?_)
                        have hw := hw x10_395 e9
                        refine aw_istore (pc := 395) C dL_told_395 (by rw [hml]; decide) ?_
                        refine aw_aload_n (pc := 397) C dL_told_397 rfl rfl ?_
                        refine aw_iload (pc := 398) C dL_told_398 rfl ?_
                        refine aw_iconst (pc := 400) C dL_told_400 (i := (1 : Int)) (by decide) ?_
                        obtain ⟨hp9, hw⟩ := hw
                        refine aw_isub (pc := 401) C dL_told_401 hp9 ?_
                        refine aw_iload_n (pc := 402) C dL_told_402 rfl rfl ?_
                        refine aw_iload (pc := 403) C dL_told_403 rfl ?_
                        refine aw_iconst (pc := 405) C dL_told_405 (i := (1 : Int)) (by decide) ?_
                        refine aw_iload (pc := 406) C dL_told_406 rfl ?_
                        obtain ⟨k_437, hk_437, hw⟩ := jn_out hw
                        have J_437 : ∀ (t5_437 : Int) (h_437 : AH) (bc8 bs8 : Nat), k_437 t5_437 h_437 → bc8 ≤ 6 → bs8 ≤ 64 → AW G p l e ({ frames := 8, cells := 6, slots := 64, locals := 195 } : Room) s m args below meth c bc8 bs8 (MQ below (QG G (oI Q)) args s 6 64 (frA G)) 437 (eOf [(0, vR a0), (2, vR a2), (3, vR a3), (4, vR a4), (5, vR a5), (6, vR x6_4), (7, vR x7_10), (8, vR x8_16), (9, vR x9_22), (10, vI x10_395), (11, vI x11_186), (12, vI x12_327)]) [vI t5_437, vI (1 : Int), vI x12_327, vI a1, vI (x10_395 - (1 : Int)), vR a0] h_437 := by
                          intro t5_437 h_437 bc8 bs8 hw hb8 hs8
                          rw [hk_437] at hw
                          refine aw_aload_n (pc := 437) C dL_told_437 rfl rfl ?_
                          refine aw_aload_n (pc := 438) C dL_told_438 rfl rfl ?_
                          refine aw_aload (pc := 439) C dL_told_439 rfl ?_
                          refine aw_aload (pc := 441) C dL_told_441 rfl ?_
                          refine aw_aload (pc := 443) C dL_told_443 rfl ?_
                          refine aw_callS (pc := 445) (as := [vR a0, vI (x10_395 - (1 : Int)), vI a1, vI x12_327, vI (1 : Int), vI t5_437, vR a2, vR a3, vR a4, vR x6_4, vR x7_10]) C (fun As hA => met_L_frame G l As a0 (x10_395 - (1 : Int)) a1 x12_327 (1 : Int) t5_437 a2 a3 a4 x6_4 x7_10 _ _ hA hw) tw471 tw472 tw0 tw473 ⟨rfl, rfl⟩ ⟨by decide, by decide, pd_L_frame⟩ ⟨Nat.le_of_ble_eq_true rfl, Nat.le_of_ble_eq_true rfl⟩ ⟨(by show _ ≤ (6 : Nat); omega), (by show _ ≤ (64 : Nat); omega)⟩ (Nat.le_of_ble_eq_true rfl) dL_told_445 rfl (fun v9 h445 hq9 => ?_)
                          obtain ⟨r445, rfl, hw⟩ := hq9
                          refine aw_if_ne (pc := 448) (tgt := 453) C dL_told_448 (by decide) (fun hc9 => ?_) (fun hc9 => ?_)
                          · have hw := hw.1 hc9
                            refine aw_aload_n (pc := 453) C dL_told_453 rfl rfl ?_
                            refine aw_aload_n (pc := 454) C dL_told_454 rfl rfl ?_
                            refine aw_aload_n (pc := 455) C dL_told_455 rfl rfl ?_
                            refine aw_aload (pc := 456) C dL_told_456 rfl ?_
                            refine aw_aload (pc := 458) C dL_told_458 rfl ?_
                            refine aw_aload (pc := 460) C dL_told_460 rfl ?_
                            refine aw_aload (pc := 462) C dL_told_462 rfl ?_
                            refine aw_aload (pc := 464) C dL_told_464 rfl ?_
                            refine aw_callS (pc := 466) (as := [vR a0, vR a2, vR a3, vR a4, vR a5, vR x6_4, vR x8_16, vR x9_22]) C (fun As hA => met_L_letters G l As a0 a2 a3 a4 a5 x6_4 x8_16 x9_22 _ _ hA hw) tw597 tw598 tw0 tw599 ⟨rfl, rfl⟩ ⟨by decide, by decide, pd_L_letters⟩ ⟨Nat.le_of_ble_eq_true rfl, Nat.le_of_ble_eq_true rfl⟩ ⟨(by show _ ≤ (6 : Nat); omega), (by show _ ≤ (64 : Nat); omega)⟩ (Nat.le_of_ble_eq_true rfl) dL_told_466 rfl (fun v9 h466 hq9 => ?_)
                            obtain ⟨r466, rfl, hw⟩ := hq9
                            obtain ⟨k_500, hk_500, hw⟩ := jn_out hw
                            have J_500 : ∀ (t0_500 : Int) (h_500 : AH) (bc8 bs8 : Nat), k_500 t0_500 h_500 → bc8 ≤ 6 → bs8 ≤ 64 → AW G p l e ({ frames := 8, cells := 6, slots := 64, locals := 195 } : Room) s m args below meth c bc8 bs8 (MQ below (QG G (oI Q)) args s 6 64 (frA G)) 500 (eOf []) [vI t0_500] h_500 := by
                              intro t0_500 h_500 bc8 bs8 hw hb8 hs8
                              rw [hk_500] at hw
                              obtain ⟨hp9, hw⟩ := hw
                              exact aw_zret (pc := 500) C hr dL_told_500 ⟨by omega, by omega⟩ hp9 ⟨_, rfl, hw⟩
                            obtain ⟨k_499, hk_499, hw⟩ := jn_out hw
                            have J_499 : ∀  (h_499 : AH) (bc8 bs8 : Nat), k_499  h_499 → bc8 ≤ 6 → bs8 ≤ 64 → AW G p l e ({ frames := 8, cells := 6, slots := 64, locals := 195 } : Room) s m args below meth c bc8 bs8 (MQ below (QG G (oI Q)) args s 6 64 (frA G)) 499 (eOf []) [] h_499 := by
                              intro  h_499 bc8 bs8 hw hb8 hs8
                              rw [hk_499] at hw
                              refine aw_iconst (pc := 499) C dL_told_499 (i := (0 : Int)) (by decide) ?_
                              refine aw_sub [] trivial ?_
                              exact J_500 _ _ _ _ hw (by omega) (by omega)
                            refine aw_if_eq (pc := 469) (tgt := 499) C dL_told_469 (by decide) (fun hc9 => ?_) (fun hc9 => ?_)
                            · have hw := hw.1 hc9
                              refine aw_sub [] trivial ?_
                              exact J_499  _ _ _ hw (by omega) (by omega)
                            · have hw := hw.2 hc9
                              refine aw_aload_n (pc := 472) C dL_told_472 rfl rfl ?_
                              refine aw_iload (pc := 473) C dL_told_473 rfl ?_
                              refine aw_iload (pc := 475) C dL_told_475 rfl ?_
                              refine aw_iload (pc := 477) C dL_told_477 rfl ?_
                              refine aw_aload_n (pc := 479) C dL_told_479 rfl rfl ?_
                              refine aw_aload_n (pc := 480) C dL_told_480 rfl rfl ?_
                              refine aw_aload (pc := 481) C dL_told_481 rfl ?_
                              refine aw_aload (pc := 483) C dL_told_483 rfl ?_
                              refine aw_aload (pc := 485) C dL_told_485 rfl ?_
                              refine aw_aload (pc := 487) C dL_told_487 rfl ?_
                              refine aw_callS (pc := 489) (as := [vR a0, vI x10_395, vI x11_186, vI x12_327, vR a2, vR a3, vR a4, vR a5, vR x6_4, vR x8_16]) C (fun As hA => met_L_counts G l As a0 x10_395 x11_186 x12_327 a2 a3 a4 a5 x6_4 x8_16 _ _ hA hw) tw621 tw622 tw0 tw623 ⟨rfl, rfl⟩ ⟨by decide, by decide, pd_L_counts⟩ ⟨Nat.le_of_ble_eq_true rfl, Nat.le_of_ble_eq_true rfl⟩ ⟨(by show _ ≤ (6 : Nat); omega), (by show _ ≤ (64 : Nat); omega)⟩ (Nat.le_of_ble_eq_true rfl) dL_told_489 rfl (fun v9 h489 hq9 => ?_)
                              obtain ⟨r489, rfl, hw⟩ := hq9
                              refine aw_if_eq (pc := 492) (tgt := 499) C dL_told_492 (by decide) (fun hc9 => ?_) (fun hc9 => ?_)
                              · have hw := hw.1 hc9
                                refine aw_sub [] trivial ?_
                                exact J_499  _ _ _ hw (by omega) (by omega)
                              · have hw := hw.2 hc9
                                refine aw_iconst (pc := 495) C dL_told_495 (i := (1 : Int)) (by decide) ?_
                                refine aw_goto (pc := 496) (tgt := 500) C dL_told_496 (by decide) ?_
                                refine aw_sub [] trivial ?_
                                exact J_500 _ _ _ _ hw (by omega) (by omega)
                          · have hw := hw.2 hc9
                            refine aw_iconst (pc := 451) C dL_told_451 (i := (0 : Int)) (by decide) ?_
                            obtain ⟨hp9, hw⟩ := hw
                            exact aw_zret (pc := 452) C hr dL_told_452 ⟨by omega, by omega⟩ hp9 ⟨_, rfl, hw⟩
                        obtain ⟨k_436, hk_436, hw⟩ := jn_out hw
                        have J_436 : ∀  (h_436 : AH) (bc8 bs8 : Nat), k_436  h_436 → bc8 ≤ 6 → bs8 ≤ 64 → AW G p l e ({ frames := 8, cells := 6, slots := 64, locals := 195 } : Room) s m args below meth c bc8 bs8 (MQ below (QG G (oI Q)) args s 6 64 (frA G)) 436 (eOf [(0, vR a0), (2, vR a2), (3, vR a3), (4, vR a4), (5, vR a5), (6, vR x6_4), (7, vR x7_10), (8, vR x8_16), (9, vR x9_22), (10, vI x10_395), (11, vI x11_186), (12, vI x12_327)]) [vI (1 : Int), vI x12_327, vI a1, vI (x10_395 - (1 : Int)), vR a0] h_436 := by
                          intro  h_436 bc8 bs8 hw hb8 hs8
                          rw [hk_436] at hw
                          refine aw_iconst (pc := 436) C dL_told_436 (i := (0 : Int)) (by decide) ?_
                          refine aw_sub [(0, vR a0), (2, vR a2), (3, vR a3), (4, vR a4), (5, vR a5), (6, vR x6_4), (7, vR x7_10), (8, vR x8_16), (9, vR x9_22), (10, vI x10_395), (11, vI x11_186), (12, vI x12_327)] ⟨rfl, rfl, rfl, rfl, rfl, rfl, rfl, rfl, rfl, rfl, rfl, rfl, trivial⟩ ?_
                          exact J_437 _ _ _ _ hw (by omega) (by omega)
                        refine aw_if_le (pc := 408) (tgt := 436) C dL_told_408 (by decide) (fun hc9 => ?_) (fun hc9 => ?_)
                        · have hw := hw.1 hc9
                          refine aw_sub [(0, vR a0), (2, vR a2), (3, vR a3), (4, vR a4), (5, vR a5), (6, vR x6_4), (7, vR x7_10), (8, vR x8_16), (9, vR x9_22), (10, vI x10_395), (11, vI x11_186), (12, vI x12_327)] ⟨rfl, rfl, rfl, rfl, rfl, rfl, rfl, rfl, rfl, rfl, rfl, rfl, trivial⟩ ?_
                          exact J_436  _ _ _ hw (by omega) (by omega)
                        · have hw := hw.2 hc9
                          refine aw_iload (pc := 411) C dL_told_411 rfl ?_
                          refine aw_if_ne (pc := 413) (tgt := 436) C dL_told_413 (by decide) (fun hc9 => ?_) (fun hc9 => ?_)
                          · have hw := hw.1 hc9
                            refine aw_sub [(0, vR a0), (2, vR a2), (3, vR a3), (4, vR a4), (5, vR a5), (6, vR x6_4), (7, vR x7_10), (8, vR x8_16), (9, vR x9_22), (10, vI x10_395), (11, vI x11_186), (12, vI x12_327)] ⟨rfl, rfl, rfl, rfl, rfl, rfl, rfl, rfl, rfl, rfl, rfl, rfl, trivial⟩ ?_
                            exact J_436  _ _ _ hw (by omega) (by omega)
                          · have hw := hw.2 hc9
                            refine aw_aload (pc := 416) C dL_told_416 rfl ?_
                            refine aw_bipush (pc := 418) C dL_told_418 (i := (7 : Int)) (by decide) ?_
                            obtain ⟨⟨k9, hp9⟩, hw⟩ := hw
                            refine aw_iald (pc := 420) C dL_told_420 hp9 ?_
                            refine aw_if_ne (pc := 421) (tgt := 436) C dL_told_421 (by decide) (fun hc9 => ?_) (fun hc9 => ?_)
                            · have hw := hw.1 hc9
                              refine aw_sub [(0, vR a0), (2, vR a2), (3, vR a3), (4, vR a4), (5, vR a5), (6, vR x6_4), (7, vR x7_10), (8, vR x8_16), (9, vR x9_22), (10, vI x10_395), (11, vI x11_186), (12, vI x12_327)] ⟨rfl, rfl, rfl, rfl, rfl, rfl, rfl, rfl, rfl, rfl, rfl, rfl, trivial⟩ ?_
                              exact J_436  _ _ _ hw (by omega) (by omega)
                            · have hw := hw.2 hc9
                              refine aw_aload_n (pc := 424) C dL_told_424 rfl rfl ?_
                              refine aw_iload (pc := 425) C dL_told_425 rfl ?_
                              refine aw_iconst (pc := 427) C dL_told_427 (i := (1 : Int)) (by decide) ?_
                              obtain ⟨hp9, hw⟩ := hw
                              refine aw_isub (pc := 428) C dL_told_428 hp9 ?_
                              refine aw_iconst (pc := 429) C dL_told_429 (i := (2 : Int)) (by decide) ?_
                              obtain ⟨hp9, hw⟩ := hw
                              refine aw_callV (pc := 430) (as := [vI (x10_395 - (1 : Int)), vI (2 : Int)]) C ci6 (fun As hA => met_X6_frame G l As a0 (x10_395 - (1 : Int)) (2 : Int) _ _ hA hw) tw555 tw556 tw557 tw1 tw558 ⟨rfl, rfl⟩ ⟨rfl, by decide, by decide, pd_X6_frame⟩ ⟨Nat.le_of_ble_eq_true rfl, Nat.le_of_ble_eq_true rfl⟩ ⟨(by show _ ≤ (6 : Nat); omega), (by show _ ≤ (64 : Nat); omega)⟩ (Nat.le_of_ble_eq_true rfl) dL_told_430 rfl hp9 (fun v9 h430 hq9 => ?_)
                              obtain ⟨r430, rfl, hw⟩ := hq9
                              refine aw_goto (pc := 433) (tgt := 437) C dL_told_433 (by decide) ?_
                              refine aw_sub [(0, vR a0), (2, vR a2), (3, vR a3), (4, vR a4), (5, vR a5), (6, vR x6_4), (7, vR x7_10), (8, vR x8_16), (9, vR x9_22), (10, vI x10_395), (11, vI x11_186), (12, vI x12_327)] ⟨rfl, rfl, rfl, rfl, rfl, rfl, rfl, rfl, rfl, rfl, rfl, rfl, trivial⟩ ?_
                              exact J_437 _ _ _ _ hw (by omega) (by omega)
                      · have hw := hw.2 hc9
                        refine aw_iload (pc := 336) C dL_told_336 rfl ?_
                        refine aw_aload (pc := 338) C dL_told_338 rfl ?_
                        refine aw_aload (pc := 340) C dL_told_340 rfl ?_
                        refine aw_callS (pc := 342) (as := [vI x13_327, vR a4, vR x6_4]) C (fun As hA => met_L_taken G l As x13_327 a4 x6_4 _ _ hA hw) tw468 tw469 tw0 tw470 ⟨rfl, rfl⟩ ⟨by decide, by decide, pd_L_taken⟩ ⟨Nat.le_of_ble_eq_true rfl, Nat.le_of_ble_eq_true rfl⟩ ⟨(by show _ ≤ (6 : Nat); omega), (by show _ ≤ (64 : Nat); omega)⟩ (Nat.le_of_ble_eq_true rfl) dL_told_342 rfl (fun v9 h342 hq9 => ?_)
                        obtain ⟨r342, rfl, hw⟩ := hq9
                        obtain ⟨k_381, hk_381, hw⟩ := jn_out hw
                        have J_381 : ∀ (x10_381 : Int) (x12_381 : Int) (h_381 : AH) (bc8 bs8 : Nat), k_381 x10_381 x12_381 h_381 → bc8 ≤ 6 → bs8 ≤ 64 → AW G p l e ({ frames := 8, cells := 6, slots := 64, locals := 195 } : Room) s m args below meth c bc8 bs8 (MQ below (QG G (oI Q)) args s 6 64 (frA G)) 381 (eOf [(0, vR a0), (1, vI a1), (2, vR a2), (3, vR a3), (4, vR a4), (5, vR a5), (6, vR x6_4), (7, vR x7_10), (8, vR x8_16), (9, vR x9_22), (10, vI x10_381), (11, vI x11_186), (12, vI x12_381), (13, vI x13_327)]) [] h_381 := by
                          intro x10_381 x12_381 h_381 bc8 bs8 hw hb8 hs8
                          rw [hk_381] at hw
                          obtain ⟨hp9, hw⟩ := hw
                          refine aw_iincN (pc := 381) C dL_told_381 (k := 1) (by decide) rfl (by rw [hml]; decide) hp9 (fun x13_381 e9 => ?_)
                          have hw := hw x13_381 e9
                          refine aw_goto (pc := 384) (tgt := 327) C dL_told_384 (by decide) ?_
                          obtain ⟨m9, hm9, hw⟩ := hw
                          refine aw_sub [(0, vR a0), (1, vI a1), (2, vR a2), (3, vR a3), (4, vR a4), (5, vR a5), (6, vR x6_4), (7, vR x7_10), (8, vR x8_16), (9, vR x9_22), (10, vI x10_381), (11, vI x11_186), (12, vI x12_381), (13, vI x13_381)] ⟨rfl, rfl, rfl, rfl, rfl, rfl, rfl, rfl, rfl, rfl, rfl, rfl, rfl, rfl, trivial⟩ ?_
                          exact ih_327 m9 hm9 _ _ _ _ _ _ hw (by omega) (by omega)
                        refine aw_if_eq (pc := 345) (tgt := 351) C dL_told_345 (by decide) (fun hc9 => ?_) (fun hc9 => ?_)
                        · have hw := hw.1 hc9
                          obtain ⟨hp9, hw⟩ := hw
                          refine aw_iincN (pc := 351) C dL_told_351 (k := 1) (by decide) rfl (by rw [hml]; decide) hp9 (fun x12_351 e9 => ?_)
                          have hw := hw x12_351 e9
                          refine aw_aload_n (pc := 354) C dL_told_354 rfl rfl ?_
                          refine aw_iload (pc := 355) C dL_told_355 rfl ?_
                          obtain ⟨hp9, hw⟩ := hw
                          refine aw_iincN (pc := 357) C dL_told_357 (k := 1) (by decide) rfl (by rw [hml]; decide) hp9 (fun x10_357 e9 => ?_)
                          have hw := hw x10_357 e9
                          refine aw_iload_n (pc := 360) C dL_told_360 rfl rfl ?_
                          refine aw_iload (pc := 361) C dL_told_361 rfl ?_
                          refine aw_iconst (pc := 363) C dL_told_363 (i := (1 : Int)) (by decide) ?_
                          refine aw_iconst (pc := 364) C dL_told_364 (i := (0 : Int)) (by decide) ?_
                          refine aw_aload_n (pc := 365) C dL_told_365 rfl rfl ?_
                          refine aw_aload_n (pc := 366) C dL_told_366 rfl rfl ?_
                          refine aw_aload (pc := 367) C dL_told_367 rfl ?_
                          refine aw_aload (pc := 369) C dL_told_369 rfl ?_
                          refine aw_aload (pc := 371) C dL_told_371 rfl ?_
                          refine aw_callS (pc := 373) (as := [vR a0, vI x10_327, vI a1, vI x12_351, vI (1 : Int), vI (0 : Int), vR a2, vR a3, vR a4, vR x6_4, vR x7_10]) C (fun As hA => met_L_frame G l As a0 x10_327 a1 x12_351 (1 : Int) (0 : Int) a2 a3 a4 x6_4 x7_10 _ _ hA hw) tw471 tw472 tw0 tw473 ⟨rfl, rfl⟩ ⟨by decide, by decide, pd_L_frame⟩ ⟨Nat.le_of_ble_eq_true rfl, Nat.le_of_ble_eq_true rfl⟩ ⟨(by show _ ≤ (6 : Nat); omega), (by show _ ≤ (64 : Nat); omega)⟩ (Nat.le_of_ble_eq_true rfl) dL_told_373 rfl (fun v9 h373 hq9 => ?_)
                          obtain ⟨r373, rfl, hw⟩ := hq9
                          refine aw_if_ne (pc := 376) (tgt := 381) C dL_told_376 (by decide) (fun hc9 => ?_) (fun hc9 => ?_)
                          · have hw := hw.1 hc9
                            refine aw_sub [(0, vR a0), (1, vI a1), (2, vR a2), (3, vR a3), (4, vR a4), (5, vR a5), (6, vR x6_4), (7, vR x7_10), (8, vR x8_16), (9, vR x9_22), (10, vI x10_357), (11, vI x11_186), (12, vI x12_351), (13, vI x13_327)] ⟨rfl, rfl, rfl, rfl, rfl, rfl, rfl, rfl, rfl, rfl, rfl, rfl, rfl, rfl, trivial⟩ ?_
                            exact J_381 _ _ _ _ _ hw (by omega) (by omega)
                          · have hw := hw.2 hc9
                            refine aw_iconst (pc := 379) C dL_told_379 (i := (0 : Int)) (by decide) ?_
                            obtain ⟨hp9, hw⟩ := hw
                            exact aw_zret (pc := 380) C hr dL_told_380 ⟨by omega, by omega⟩ hp9 ⟨_, rfl, hw⟩
                        · have hw := hw.2 hc9
                          refine aw_goto (pc := 348) (tgt := 381) C dL_told_348 (by decide) ?_
                          refine aw_sub [(0, vR a0), (1, vI a1), (2, vR a2), (3, vR a3), (4, vR a4), (5, vR a5), (6, vR x6_4), (7, vR x7_10), (8, vR x8_16), (9, vR x9_22), (10, vI x10_327), (11, vI x11_186), (12, vI x12_327), (13, vI x13_327)] ⟨rfl, rfl, rfl, rfl, rfl, rfl, rfl, rfl, rfl, rfl, rfl, rfl, rfl, rfl, trivial⟩ ?_
                          exact J_381 _ _ _ _ _ hw (by omega) (by omega)
                    refine aw_sub [(0, vR a0), (1, vI a1), (2, vR a2), (3, vR a3), (4, vR a4), (5, vR a5), (6, vR x6_4), (7, vR x7_10), (8, vR x8_16), (9, vR x9_22), (10, vI x10_186), (11, vI x11_186), (12, vI (0 : Int)), (13, vI (0 : Int))] ⟨rfl, rfl, rfl, rfl, rfl, rfl, rfl, rfl, rfl, rfl, rfl, rfl, rfl, rfl, trivial⟩ ?_
                    exact L_327 n9 _ _ _ _ _ _ hi9 (by omega) (by omega)
                  refine aw_if_ne (pc := 201) (tgt := 321) C dL_told_201 (by decide) (fun hc9 => ?_) (fun hc9 => ?_)
                  · have hw := hw.1 hc9
                    refine aw_sub [(0, vR a0), (1, vI a1), (2, vR a2), (3, vR a3), (4, vR a4), (5, vR a5), (6, vR x6_4), (7, vR x7_10), (8, vR x8_16), (9, vR x9_22), (10, vI x10_186), (11, vI x11_186)] ⟨rfl, rfl, rfl, rfl, rfl, rfl, rfl, rfl, rfl, rfl, rfl, rfl, trivial⟩ ?_
                    exact J_321  _ _ _ hw (by omega) (by omega)
                  · have hw := hw.2 hc9
                    refine aw_iconst (pc := 204) C dL_told_204 (i := (3 : Int)) (by decide) ?_
                    refine aw_aload (pc := 205) C dL_told_205 rfl ?_
                    refine aw_aload (pc := 207) C dL_told_207 rfl ?_
                    refine aw_callS (pc := 209) (as := [vI (3 : Int), vR a4, vR x6_4]) C (fun As hA => met_L_many G l As (3 : Int) a4 x6_4 _ _ hA hw) tw588 tw589 tw0 tw590 ⟨rfl, rfl⟩ ⟨by decide, by decide, pd_L_many⟩ ⟨Nat.le_of_ble_eq_true rfl, Nat.le_of_ble_eq_true rfl⟩ ⟨(by show _ ≤ (6 : Nat); omega), (by show _ ≤ (64 : Nat); omega)⟩ (Nat.le_of_ble_eq_true rfl) dL_told_209 rfl (fun v9 h209 hq9 => ?_)
                    obtain ⟨r209, rfl, hw⟩ := hq9
                    refine aw_if_le (pc := 212) (tgt := 321) C dL_told_212 (by decide) (fun hc9 => ?_) (fun hc9 => ?_)
                    · have hw := hw.1 hc9
                      refine aw_sub [(0, vR a0), (1, vI a1), (2, vR a2), (3, vR a3), (4, vR a4), (5, vR a5), (6, vR x6_4), (7, vR x7_10), (8, vR x8_16), (9, vR x9_22), (10, vI x10_186), (11, vI x11_186)] ⟨rfl, rfl, rfl, rfl, rfl, rfl, rfl, rfl, rfl, rfl, rfl, rfl, trivial⟩ ?_
                      exact J_321  _ _ _ hw (by omega) (by omega)
                    · have hw := hw.2 hc9
                      refine aw_sub [(0, vR a0), (1, vI a1), (2, vR a2), (3, vR a3), (4, vR a4), (5, vR a5), (6, vR x6_4), (7, vR x7_10), (8, vR x8_16), (9, vR x9_22), (10, vI x10_186), (11, vI x11_186)] ⟨rfl, rfl, rfl, rfl, rfl, rfl, rfl, rfl, rfl, rfl, rfl, rfl, trivial⟩ ?_
                      exact J_215  _ _ _ hw (by omega) (by omega)
              refine aw_sub [(0, vR a0), (1, vI a1), (2, vR a2), (3, vR a3), (4, vR a4), (5, vR a5), (6, vR x6_4), (7, vR x7_10), (8, vR x8_16), (9, vR x9_22), (10, vI x10_120), (11, vI (0 : Int))] ⟨rfl, rfl, rfl, rfl, rfl, rfl, rfl, rfl, rfl, rfl, rfl, rfl, trivial⟩ ?_
              exact L_186 n9 _ _ _ _ _ hi9 (by omega) (by omega)
            · have hw := hw.2 hc9
              refine aw_aload (pc := 125) C dL_told_125 rfl ?_
              refine aw_iconst (pc := 127) C dL_told_127 (i := (2 : Int)) (by decide) ?_
              refine aw_iload (pc := 128) C dL_told_128 rfl ?_
              obtain ⟨hp9, hw⟩ := hw
              refine aw_imul (pc := 130) C dL_told_130 hp9 ?_
              obtain ⟨⟨k9, hp9⟩, hw⟩ := hw
              refine aw_iald (pc := 131) C dL_told_131 hp9 ?_
              obtain ⟨k_177, hk_177, hw⟩ := jn_out hw
              have J_177 : ∀ (x10_177 : Int) (h_177 : AH) (bc8 bs8 : Nat), k_177 x10_177 h_177 → bc8 ≤ 6 → bs8 ≤ 64 → AW G p l e ({ frames := 8, cells := 6, slots := 64, locals := 195 } : Room) s m args below meth c bc8 bs8 (MQ below (QG G (oI Q)) args s 6 64 (frA G)) 177 (eOf [(0, vR a0), (1, vI a1), (2, vR a2), (3, vR a3), (4, vR a4), (5, vR a5), (6, vR x6_4), (7, vR x7_10), (8, vR x8_16), (9, vR x9_22), (10, vI x10_177), (11, vI x11_120)]) [] h_177 := by
                intro x10_177 h_177 bc8 bs8 hw hb8 hs8
                rw [hk_177] at hw
                obtain ⟨hp9, hw⟩ := hw
                refine aw_iincN (pc := 177) C dL_told_177 (k := (-1)) (by decide) rfl (by rw [hml]; decide) hp9 (fun x11_177 e9 => ?_)
                have hw := hw x11_177 e9
                refine aw_goto (pc := 180) (tgt := 120) C dL_told_180 (by decide) ?_
                obtain ⟨m9, hm9, hw⟩ := hw
                refine aw_sub [(0, vR a0), (1, vI a1), (2, vR a2), (3, vR a3), (4, vR a4), (5, vR a5), (6, vR x6_4), (7, vR x7_10), (8, vR x8_16), (9, vR x9_22), (10, vI x10_177), (11, vI x11_177)] ⟨rfl, rfl, rfl, rfl, rfl, rfl, rfl, rfl, rfl, rfl, rfl, rfl, trivial⟩ ?_
                exact ih_120 m9 hm9 _ _ _ _ _ hw (by omega) (by omega)
              refine aw_if_lt (pc := 132) (tgt := 138) C dL_told_132 (by decide) (fun hc9 => ?_) (fun hc9 => ?_)
              · have hw := hw.1 hc9
                refine aw_aload (pc := 138) C dL_told_138 rfl ?_
                refine aw_iload (pc := 140) C dL_told_140 rfl ?_
                refine aw_iconst (pc := 142) C dL_told_142 (i := (-1 : Int)) (by decide) ?_
                obtain ⟨⟨k9, hp9⟩, hw⟩ := hw
                refine aw_iast (pc := 143) C dL_told_143 hp9 (aw_nmH (fun h143 e9 => ?_))
                have hw := hw h143 e9
                refine aw_aload (pc := 144) C dL_told_144 rfl ?_
                refine aw_iload (pc := 146) C dL_told_146 rfl ?_
                refine aw_iload (pc := 148) C dL_told_148 rfl ?_
                obtain ⟨⟨k9, hp9⟩, hw⟩ := hw
                refine aw_iast (pc := 150) C dL_told_150 hp9 (aw_nmH (fun h150 e9 => ?_))
                have hw := hw h150 e9
                refine aw_aload_n (pc := 151) C dL_told_151 rfl rfl ?_
                refine aw_iload (pc := 152) C dL_told_152 rfl ?_
                obtain ⟨hp9, hw⟩ := hw
                refine aw_iincN (pc := 154) C dL_told_154 (k := 1) (by decide) rfl (by rw [hml]; decide) hp9 (fun x10_154 e9 => ?_)
                have hw := hw x10_154 e9
                refine aw_iload_n (pc := 157) C dL_told_157 rfl rfl ?_
                refine aw_iconst (pc := 158) C dL_told_158 (i := (0 : Int)) (by decide) ?_
                refine aw_iconst (pc := 159) C dL_told_159 (i := (0 : Int)) (by decide) ?_
                refine aw_iconst (pc := 160) C dL_told_160 (i := (0 : Int)) (by decide) ?_
                refine aw_aload_n (pc := 161) C dL_told_161 rfl rfl ?_
                refine aw_aload_n (pc := 162) C dL_told_162 rfl rfl ?_
                refine aw_aload (pc := 163) C dL_told_163 rfl ?_
                refine aw_aload (pc := 165) C dL_told_165 rfl ?_
                refine aw_aload (pc := 167) C dL_told_167 rfl ?_
                refine aw_callS (pc := 169) (as := [vR a0, vI x10_120, vI a1, vI (0 : Int), vI (0 : Int), vI (0 : Int), vR a2, vR a3, vR a4, vR x6_4, vR x7_10]) C (fun As hA => met_L_frame G l As a0 x10_120 a1 (0 : Int) (0 : Int) (0 : Int) a2 a3 a4 x6_4 x7_10 _ _ hA hw) tw471 tw472 tw0 tw473 ⟨rfl, rfl⟩ ⟨by decide, by decide, pd_L_frame⟩ ⟨Nat.le_of_ble_eq_true rfl, Nat.le_of_ble_eq_true rfl⟩ ⟨(by show _ ≤ (6 : Nat); omega), (by show _ ≤ (64 : Nat); omega)⟩ (Nat.le_of_ble_eq_true rfl) dL_told_169 rfl (fun v9 h169 hq9 => ?_)
                obtain ⟨r169, rfl, hw⟩ := hq9
                refine aw_if_ne (pc := 172) (tgt := 177) C dL_told_172 (by decide) (fun hc9 => ?_) (fun hc9 => ?_)
                · have hw := hw.1 hc9
                  refine aw_sub [(0, vR a0), (1, vI a1), (2, vR a2), (3, vR a3), (4, vR a4), (5, vR a5), (6, vR x6_4), (7, vR x7_10), (8, vR x8_16), (9, vR x9_22), (10, vI x10_154), (11, vI x11_120)] ⟨rfl, rfl, rfl, rfl, rfl, rfl, rfl, rfl, rfl, rfl, rfl, rfl, trivial⟩ ?_
                  exact J_177 _ _ _ _ hw (by omega) (by omega)
                · have hw := hw.2 hc9
                  refine aw_iconst (pc := 175) C dL_told_175 (i := (0 : Int)) (by decide) ?_
                  obtain ⟨hp9, hw⟩ := hw
                  exact aw_zret (pc := 176) C hr dL_told_176 ⟨by omega, by omega⟩ hp9 ⟨_, rfl, hw⟩
              · have hw := hw.2 hc9
                refine aw_goto (pc := 135) (tgt := 177) C dL_told_135 (by decide) ?_
                refine aw_sub [(0, vR a0), (1, vI a1), (2, vR a2), (3, vR a3), (4, vR a4), (5, vR a5), (6, vR x6_4), (7, vR x7_10), (8, vR x8_16), (9, vR x9_22), (10, vI x10_120), (11, vI x11_120)] ⟨rfl, rfl, rfl, rfl, rfl, rfl, rfl, rfl, rfl, rfl, rfl, rfl, trivial⟩ ?_
                exact J_177 _ _ _ _ hw (by omega) (by omega)
          refine aw_sub [(0, vR a0), (1, vI a1), (2, vR a2), (3, vR a3), (4, vR a4), (5, vR a5), (6, vR x6_4), (7, vR x7_10), (8, vR x8_16), (9, vR x9_22), (10, vI x10_67), (11, vI x11_118)] ⟨rfl, rfl, rfl, rfl, rfl, rfl, rfl, rfl, rfl, rfl, rfl, rfl, trivial⟩ ?_
          exact L_120 n9 _ _ _ _ _ hi9 (by omega) (by omega)
        · have hw := hw.2 hc9
          refine aw_iload (pc := 77) C dL_told_77 rfl ?_
          refine aw_iconst (pc := 79) C dL_told_79 (i := (2 : Int)) (by decide) ?_
          obtain ⟨k_106, hk_106, hw⟩ := jn_out hw
          have J_106 : ∀  (h_106 : AH) (bc8 bs8 : Nat), k_106  h_106 → bc8 ≤ 6 → bs8 ≤ 64 → AW G p l e ({ frames := 8, cells := 6, slots := 64, locals := 195 } : Room) s m args below meth c bc8 bs8 (MQ below (QG G (oI Q)) args s 6 64 (frA G)) 106 (eOf [(0, vR a0), (1, vI a1), (2, vR a2), (3, vR a3), (4, vR a4), (5, vR a5), (6, vR x6_4), (7, vR x7_10), (8, vR x8_16), (9, vR x9_22), (10, vI x10_67)]) [] h_106 := by
            intro  h_106 bc8 bs8 hw hb8 hs8
            rw [hk_106] at hw
            obtain ⟨hp9, hw⟩ := hw
            refine aw_iincN (pc := 106) C dL_told_106 (k := 1) (by decide) rfl (by rw [hml]; decide) hp9 (fun x10_106 e9 => ?_)
            have hw := hw x10_106 e9
            refine aw_goto (pc := 109) (tgt := 67) C dL_told_109 (by decide) ?_
            obtain ⟨m9, hm9, hw⟩ := hw
            refine aw_sub [(0, vR a0), (1, vI a1), (2, vR a2), (3, vR a3), (4, vR a4), (5, vR a5), (6, vR x6_4), (7, vR x7_10), (8, vR x8_16), (9, vR x9_22), (10, vI x10_106)] ⟨rfl, rfl, rfl, rfl, rfl, rfl, rfl, rfl, rfl, rfl, rfl, trivial⟩ ?_
            exact ih_67 m9 hm9 _ _ _ _ hw (by omega) (by omega)
          refine aw_icmp_ge (pc := 80) (tgt := 106) C dL_told_80 (by decide) (fun hc9 => ?_) (fun hc9 => ?_)
          · have hw := hw.1 hc9
            refine aw_sub [(0, vR a0), (1, vI a1), (2, vR a2), (3, vR a3), (4, vR a4), (5, vR a5), (6, vR x6_4), (7, vR x7_10), (8, vR x8_16), (9, vR x9_22), (10, vI x10_67)] ⟨rfl, rfl, rfl, rfl, rfl, rfl, rfl, rfl, rfl, rfl, rfl, trivial⟩ ?_
            exact J_106  _ _ _ hw (by omega) (by omega)
          · have hw := hw.2 hc9
            refine aw_aload_n (pc := 83) C dL_told_83 rfl rfl ?_
            refine aw_iload (pc := 84) C dL_told_84 rfl ?_
            refine aw_iload_n (pc := 86) C dL_told_86 rfl rfl ?_
            refine aw_iconst (pc := 87) C dL_told_87 (i := (0 : Int)) (by decide) ?_
            refine aw_iconst (pc := 88) C dL_told_88 (i := (0 : Int)) (by decide) ?_
            refine aw_iconst (pc := 89) C dL_told_89 (i := (0 : Int)) (by decide) ?_
            refine aw_aload_n (pc := 90) C dL_told_90 rfl rfl ?_
            refine aw_aload_n (pc := 91) C dL_told_91 rfl rfl ?_
            refine aw_aload (pc := 92) C dL_told_92 rfl ?_
            refine aw_aload (pc := 94) C dL_told_94 rfl ?_
            refine aw_aload (pc := 96) C dL_told_96 rfl ?_
            refine aw_callS (pc := 98) (as := [vR a0, vI x10_67, vI a1, vI (0 : Int), vI (0 : Int), vI (0 : Int), vR a2, vR a3, vR a4, vR x6_4, vR x7_10]) C (fun As hA => met_L_frame G l As a0 x10_67 a1 (0 : Int) (0 : Int) (0 : Int) a2 a3 a4 x6_4 x7_10 _ _ hA hw) tw471 tw472 tw0 tw473 ⟨rfl, rfl⟩ ⟨by decide, by decide, pd_L_frame⟩ ⟨Nat.le_of_ble_eq_true rfl, Nat.le_of_ble_eq_true rfl⟩ ⟨(by show _ ≤ (6 : Nat); omega), (by show _ ≤ (64 : Nat); omega)⟩ (Nat.le_of_ble_eq_true rfl) dL_told_98 rfl (fun v9 h98 hq9 => ?_)
            obtain ⟨r98, rfl, hw⟩ := hq9
            refine aw_if_ne (pc := 101) (tgt := 106) C dL_told_101 (by decide) (fun hc9 => ?_) (fun hc9 => ?_)
            · have hw := hw.1 hc9
              refine aw_sub [(0, vR a0), (1, vI a1), (2, vR a2), (3, vR a3), (4, vR a4), (5, vR a5), (6, vR x6_4), (7, vR x7_10), (8, vR x8_16), (9, vR x9_22), (10, vI x10_67)] ⟨rfl, rfl, rfl, rfl, rfl, rfl, rfl, rfl, rfl, rfl, rfl, trivial⟩ ?_
              exact J_106  _ _ _ hw (by omega) (by omega)
            · have hw := hw.2 hc9
              refine aw_iconst (pc := 104) C dL_told_104 (i := (0 : Int)) (by decide) ?_
              obtain ⟨hp9, hw⟩ := hw
              exact aw_zret (pc := 105) C hr dL_told_105 ⟨by omega, by omega⟩ hp9 ⟨_, rfl, hw⟩
      refine aw_sub [(0, vR a0), (1, vI a1), (2, vR a2), (3, vR a3), (4, vR a4), (5, vR a5), (6, vR x6_4), (7, vR x7_10), (8, vR x8_16), (9, vR x9_22), (10, vI (0 : Int))] ⟨rfl, rfl, rfl, rfl, rfl, rfl, rfl, rfl, rfl, rfl, rfl, trivial⟩ ?_
      exact L_67 n9 _ _ _ _ hi9 (by omega) (by omega)
    · have hw := hw.2 hc9
      refine aw_aload (pc := 47) C dL_told_47 rfl ?_
      refine aw_iload (pc := 49) C dL_told_49 rfl ?_
      refine aw_aload_n (pc := 51) C dL_told_51 rfl rfl ?_
      refine aw_iconst (pc := 52) C dL_told_52 (i := (2 : Int)) (by decide) ?_
      refine aw_iload (pc := 53) C dL_told_53 rfl ?_
      obtain ⟨hp9, hw⟩ := hw
      refine aw_imul (pc := 55) C dL_told_55 hp9 ?_
      obtain ⟨⟨k9, hp9⟩, hw⟩ := hw
      refine aw_iald (pc := 56) C dL_told_56 hp9 ?_
      obtain ⟨⟨k9, hp9⟩, hw⟩ := hw
      refine aw_iast (pc := 57) C dL_told_57 hp9 (aw_nmH (fun h57 e9 => ?_))
      have hw := hw h57 e9
      obtain ⟨hp9, hw⟩ := hw
      refine aw_iincN (pc := 58) C dL_told_58 (k := 1) (by decide) rfl (by rw [hml]; decide) hp9 (fun x10_58 e9 => ?_)
      have hw := hw x10_58 e9
      refine aw_goto (pc := 61) (tgt := 38) C dL_told_61 (by decide) ?_
      obtain ⟨m9, hm9, hw⟩ := hw
      refine aw_sub [(0, vR a0), (1, vI a1), (2, vR a2), (3, vR a3), (4, vR a4), (5, vR a5), (6, vR x6_4), (7, vR x7_10), (8, vR x8_16), (9, vR x9_22), (10, vI x10_58)] ⟨rfl, rfl, rfl, rfl, rfl, rfl, rfl, rfl, rfl, rfl, rfl, trivial⟩ ?_
      exact ih_38 m9 hm9 _ _ _ _ hw (by omega) (by omega)
  refine aw_sub [(0, vR a0), (1, vI a1), (2, vR a2), (3, vR a3), (4, vR a4), (5, vR a5), (6, vR x6_4), (7, vR x7_10), (8, vR x8_16), (9, vR x9_22), (10, vI (0 : Int))] ⟨rfl, rfl, rfl, rfl, rfl, rfl, rfl, rfl, rfl, rfl, rfl, trivial⟩ ?_
  exact L_38 n9 _ _ _ _ hi9 (by omega) (by omega)
theorem dL_change_0 : decode cL_change 0 = .ok (.iconst 0, 1) := by decide +kernel
theorem dL_change_1 : decode cL_change 1 = .ok (.istore 5, 2) := by decide +kernel
theorem dL_change_3 : decode cL_change 3 = .ok (.iload 5, 2) := by decide +kernel
theorem dL_change_5 : decode cL_change 5 = .ok (.aload 4, 2) := by decide +kernel
theorem dL_change_7 : decode cL_change 7 = .ok (.iload_n 2, 1) := by decide +kernel
theorem dL_change_8 : decode cL_change 8 = .ok (.iaload, 1) := by decide +kernel
theorem dL_change_9 : decode cL_change 9 = .ok (.if_icmp .ge 19, 3) := by decide +kernel
theorem dL_change_12 : decode cL_change 12 = .ok (.aload_n 3, 1) := by decide +kernel
theorem dL_change_13 : decode cL_change 13 = .ok (.iconst 2, 1) := by decide +kernel
theorem dL_change_14 : decode cL_change 14 = .ok (.iload 5, 2) := by decide +kernel
theorem dL_change_16 : decode cL_change 16 = .ok (.imul, 1) := by decide +kernel
theorem dL_change_17 : decode cL_change 17 = .ok (.iaload, 1) := by decide +kernel
theorem dL_change_18 : decode cL_change 18 = .ok (.iload_n 0, 1) := by decide +kernel
theorem dL_change_19 : decode cL_change 19 = .ok (.if_icmp .ge 9, 3) := by decide +kernel
theorem dL_change_22 : decode cL_change 22 = .ok (.iinc 5 1, 3) := by decide +kernel
theorem dL_change_25 : decode cL_change 25 = .ok (.goto (-22), 3) := by decide +kernel
theorem dL_change_28 : decode cL_change 28 = .ok (.iload 5, 2) := by decide +kernel
theorem dL_change_30 : decode cL_change 30 = .ok (.aload 4, 2) := by decide +kernel
theorem dL_change_32 : decode cL_change 32 = .ok (.iload_n 2, 1) := by decide +kernel
theorem dL_change_33 : decode cL_change 33 = .ok (.iaload, 1) := by decide +kernel
theorem dL_change_34 : decode cL_change 34 = .ok (.if_icmp .ge 17, 3) := by decide +kernel
theorem dL_change_37 : decode cL_change 37 = .ok (.aload_n 3, 1) := by decide +kernel
theorem dL_change_38 : decode cL_change 38 = .ok (.iconst 2, 1) := by decide +kernel
theorem dL_change_39 : decode cL_change 39 = .ok (.iload 5, 2) := by decide +kernel
theorem dL_change_41 : decode cL_change 41 = .ok (.imul, 1) := by decide +kernel
theorem dL_change_42 : decode cL_change 42 = .ok (.iaload, 1) := by decide +kernel
theorem dL_change_43 : decode cL_change 43 = .ok (.iload_n 0, 1) := by decide +kernel
theorem dL_change_44 : decode cL_change 44 = .ok (.if_icmp .ne 7, 3) := by decide +kernel
theorem dL_change_47 : decode cL_change 47 = .ok (.iconst 1, 1) := by decide +kernel
theorem dL_change_48 : decode cL_change 48 = .ok (.goto 4, 3) := by decide +kernel
theorem dL_change_51 : decode cL_change 51 = .ok (.iconst 0, 1) := by decide +kernel
theorem dL_change_52 : decode cL_change 52 = .ok (.istore 6, 2) := by decide +kernel
theorem dL_change_54 : decode cL_change 54 = .ok (.iload 6, 2) := by decide +kernel
theorem dL_change_56 : decode cL_change 56 = .ok (.ifCond .eq 14, 3) := by decide +kernel
theorem dL_change_59 : decode cL_change 59 = .ok (.aload_n 3, 1) := by decide +kernel
theorem dL_change_60 : decode cL_change 60 = .ok (.iconst 2, 1) := by decide +kernel
theorem dL_change_61 : decode cL_change 61 = .ok (.iload 5, 2) := by decide +kernel
theorem dL_change_63 : decode cL_change 63 = .ok (.imul, 1) := by decide +kernel
theorem dL_change_64 : decode cL_change 64 = .ok (.iconst 1, 1) := by decide +kernel
theorem dL_change_65 : decode cL_change 65 = .ok (.iadd, 1) := by decide +kernel
theorem dL_change_66 : decode cL_change 66 = .ok (.iaload, 1) := by decide +kernel
theorem dL_change_67 : decode cL_change 67 = .ok (.goto 5, 3) := by decide +kernel
theorem dL_change_70 : decode cL_change 70 = .ok (.bipush 32, 2) := by decide +kernel
theorem dL_change_72 : decode cL_change 72 = .ok (.istore 7, 2) := by decide +kernel
theorem dL_change_74 : decode cL_change 74 = .ok (.iload_n 1, 1) := by decide +kernel
theorem dL_change_75 : decode cL_change 75 = .ok (.bipush 32, 2) := by decide +kernel
theorem dL_change_77 : decode cL_change 77 = .ok (.if_icmp .ne 52, 3) := by decide +kernel
theorem dL_change_80 : decode cL_change 80 = .ok (.iload 6, 2) := by decide +kernel
theorem dL_change_82 : decode cL_change 82 = .ok (.ifCond .eq 47, 3) := by decide +kernel
theorem dL_change_85 : decode cL_change 85 = .ok (.aload 4, 2) := by decide +kernel
theorem dL_change_87 : decode cL_change 87 = .ok (.iload_n 2, 1) := by decide +kernel
theorem dL_change_88 : decode cL_change 88 = .ok (.dup2, 1) := by decide +kernel
theorem dL_change_89 : decode cL_change 89 = .ok (.iaload, 1) := by decide +kernel
theorem dL_change_90 : decode cL_change 90 = .ok (.iconst 1, 1) := by decide +kernel
theorem dL_change_91 : decode cL_change 91 = .ok (.isub, 1) := by decide +kernel
theorem dL_change_92 : decode cL_change 92 = .ok (.iastore, 1) := by decide +kernel
theorem dL_change_93 : decode cL_change 93 = .ok (.iconst 2, 1) := by decide +kernel
theorem dL_change_94 : decode cL_change 94 = .ok (.iload 5, 2) := by decide +kernel
theorem dL_change_96 : decode cL_change 96 = .ok (.imul, 1) := by decide +kernel
theorem dL_change_97 : decode cL_change 97 = .ok (.istore 8, 2) := by decide +kernel
theorem dL_change_99 : decode cL_change 99 = .ok (.iload 8, 2) := by decide +kernel
theorem dL_change_101 : decode cL_change 101 = .ok (.iconst 2, 1) := by decide +kernel
theorem dL_change_102 : decode cL_change 102 = .ok (.aload 4, 2) := by decide +kernel
theorem dL_change_104 : decode cL_change 104 = .ok (.iload_n 2, 1) := by decide +kernel
theorem dL_change_105 : decode cL_change 105 = .ok (.iaload, 1) := by decide +kernel
theorem dL_change_106 : decode cL_change 106 = .ok (.imul, 1) := by decide +kernel
theorem dL_change_107 : decode cL_change 107 = .ok (.if_icmp .ge 19, 3) := by decide +kernel
theorem dL_change_110 : decode cL_change 110 = .ok (.aload_n 3, 1) := by decide +kernel
theorem dL_change_111 : decode cL_change 111 = .ok (.iload 8, 2) := by decide +kernel
theorem dL_change_113 : decode cL_change 113 = .ok (.aload_n 3, 1) := by decide +kernel
theorem dL_change_114 : decode cL_change 114 = .ok (.iload 8, 2) := by decide +kernel
theorem dL_change_116 : decode cL_change 116 = .ok (.iconst 2, 1) := by decide +kernel
theorem dL_change_117 : decode cL_change 117 = .ok (.iadd, 1) := by decide +kernel
theorem dL_change_118 : decode cL_change 118 = .ok (.iaload, 1) := by decide +kernel
theorem dL_change_119 : decode cL_change 119 = .ok (.iastore, 1) := by decide +kernel
theorem dL_change_120 : decode cL_change 120 = .ok (.iinc 8 1, 3) := by decide +kernel
theorem dL_change_123 : decode cL_change 123 = .ok (.goto (-24), 3) := by decide +kernel
theorem dL_change_126 : decode cL_change 126 = .ok (.goto 91, 3) := by decide +kernel
theorem dL_change_129 : decode cL_change 129 = .ok (.iload_n 1, 1) := by decide +kernel
theorem dL_change_130 : decode cL_change 130 = .ok (.bipush 32, 2) := by decide +kernel
theorem dL_change_132 : decode cL_change 132 = .ok (.if_icmp .eq 20, 3) := by decide +kernel
theorem dL_change_135 : decode cL_change 135 = .ok (.iload 6, 2) := by decide +kernel
theorem dL_change_137 : decode cL_change 137 = .ok (.ifCond .eq 15, 3) := by decide +kernel
theorem dL_change_140 : decode cL_change 140 = .ok (.aload_n 3, 1) := by decide +kernel
theorem dL_change_141 : decode cL_change 141 = .ok (.iconst 2, 1) := by decide +kernel
theorem dL_change_142 : decode cL_change 142 = .ok (.iload 5, 2) := by decide +kernel
theorem dL_change_144 : decode cL_change 144 = .ok (.imul, 1) := by decide +kernel
theorem dL_change_145 : decode cL_change 145 = .ok (.iconst 1, 1) := by decide +kernel
theorem dL_change_146 : decode cL_change 146 = .ok (.iadd, 1) := by decide +kernel
theorem dL_change_147 : decode cL_change 147 = .ok (.iload_n 1, 1) := by decide +kernel
theorem dL_change_148 : decode cL_change 148 = .ok (.iastore, 1) := by decide +kernel
theorem dL_change_149 : decode cL_change 149 = .ok (.goto 68, 3) := by decide +kernel
theorem dL_change_152 : decode cL_change 152 = .ok (.iload_n 1, 1) := by decide +kernel
theorem dL_change_153 : decode cL_change 153 = .ok (.bipush 32, 2) := by decide +kernel
theorem dL_change_155 : decode cL_change 155 = .ok (.if_icmp .eq 62, 3) := by decide +kernel
theorem dL_change_158 : decode cL_change 158 = .ok (.iconst 2, 1) := by decide +kernel
theorem dL_change_159 : decode cL_change 159 = .ok (.aload 4, 2) := by decide +kernel
theorem dL_change_161 : decode cL_change 161 = .ok (.iload_n 2, 1) := by decide +kernel
theorem dL_change_162 : decode cL_change 162 = .ok (.iaload, 1) := by decide +kernel
theorem dL_change_163 : decode cL_change 163 = .ok (.imul, 1) := by decide +kernel
theorem dL_change_164 : decode cL_change 164 = .ok (.iconst 1, 1) := by decide +kernel
theorem dL_change_165 : decode cL_change 165 = .ok (.isub, 1) := by decide +kernel
theorem dL_change_166 : decode cL_change 166 = .ok (.istore 8, 2) := by decide +kernel
theorem dL_change_168 : decode cL_change 168 = .ok (.iload 8, 2) := by decide +kernel
theorem dL_change_170 : decode cL_change 170 = .ok (.iconst 2, 1) := by decide +kernel
theorem dL_change_171 : decode cL_change 171 = .ok (.iload 5, 2) := by decide +kernel
theorem dL_change_173 : decode cL_change 173 = .ok (.imul, 1) := by decide +kernel
theorem dL_change_174 : decode cL_change 174 = .ok (.if_icmp .lt 19, 3) := by decide +kernel
theorem dL_change_177 : decode cL_change 177 = .ok (.aload_n 3, 1) := by decide +kernel
theorem dL_change_178 : decode cL_change 178 = .ok (.iload 8, 2) := by decide +kernel
theorem dL_change_180 : decode cL_change 180 = .ok (.iconst 2, 1) := by decide +kernel
theorem dL_change_181 : decode cL_change 181 = .ok (.iadd, 1) := by decide +kernel
theorem dL_change_182 : decode cL_change 182 = .ok (.aload_n 3, 1) := by decide +kernel
theorem dL_change_183 : decode cL_change 183 = .ok (.iload 8, 2) := by decide +kernel
theorem dL_change_185 : decode cL_change 185 = .ok (.iaload, 1) := by decide +kernel
theorem dL_change_186 : decode cL_change 186 = .ok (.iastore, 1) := by decide +kernel
theorem dL_change_187 : decode cL_change 187 = .ok (.iinc 8 (-1), 3) := by decide +kernel
theorem dL_change_190 : decode cL_change 190 = .ok (.goto (-22), 3) := by decide +kernel
theorem dL_change_193 : decode cL_change 193 = .ok (.aload_n 3, 1) := by decide +kernel
theorem dL_change_194 : decode cL_change 194 = .ok (.iconst 2, 1) := by decide +kernel
theorem dL_change_195 : decode cL_change 195 = .ok (.iload 5, 2) := by decide +kernel
theorem dL_change_197 : decode cL_change 197 = .ok (.imul, 1) := by decide +kernel
theorem dL_change_198 : decode cL_change 198 = .ok (.iload_n 0, 1) := by decide +kernel
theorem dL_change_199 : decode cL_change 199 = .ok (.iastore, 1) := by decide +kernel
theorem dL_change_200 : decode cL_change 200 = .ok (.aload_n 3, 1) := by decide +kernel
theorem dL_change_201 : decode cL_change 201 = .ok (.iconst 2, 1) := by decide +kernel
theorem dL_change_202 : decode cL_change 202 = .ok (.iload 5, 2) := by decide +kernel
theorem dL_change_204 : decode cL_change 204 = .ok (.imul, 1) := by decide +kernel
theorem dL_change_205 : decode cL_change 205 = .ok (.iconst 1, 1) := by decide +kernel
theorem dL_change_206 : decode cL_change 206 = .ok (.iadd, 1) := by decide +kernel
theorem dL_change_207 : decode cL_change 207 = .ok (.iload_n 1, 1) := by decide +kernel
theorem dL_change_208 : decode cL_change 208 = .ok (.iastore, 1) := by decide +kernel
theorem dL_change_209 : decode cL_change 209 = .ok (.aload 4, 2) := by decide +kernel
theorem dL_change_211 : decode cL_change 211 = .ok (.iload_n 2, 1) := by decide +kernel
theorem dL_change_212 : decode cL_change 212 = .ok (.dup2, 1) := by decide +kernel
theorem dL_change_213 : decode cL_change 213 = .ok (.iaload, 1) := by decide +kernel
theorem dL_change_214 : decode cL_change 214 = .ok (.iconst 1, 1) := by decide +kernel
theorem dL_change_215 : decode cL_change 215 = .ok (.iadd, 1) := by decide +kernel
theorem dL_change_216 : decode cL_change 216 = .ok (.iastore, 1) := by decide +kernel
theorem dL_change_217 : decode cL_change 217 = .ok (.iload 7, 2) := by decide +kernel
theorem dL_change_219 : decode cL_change 219 = .ok (.ireturn, 1) := by decide +kernel
theorem pd_L_change : (parseMethodDescriptor yL_change.desc).map (fun d => d.parameters.length) = some 5 := by decide +kernel
def w_L_change (zz : Nat → Nat) (a0 : Int) (a1 : Int) (a2 : Int) (a3 : Nat) (a4 : Nat) (h : AH) (Q : Int → AH → Prop) : Prop := ∃ I_3 : Nat → Int → AH → Prop, (∃ n, I_3 n (0 : Int) h) ∧ ∀ (n_3 : Nat) (x5_3 : Int) (h_3 : AH), I_3 n_3 x5_3 h_3 → (okI h_3 a4 a2 ∧ jn (fun  (h_28 : AH) => okI h_28 a4 a2 ∧ jn (fun (t0_52 : Int) (h_52 : AH) => jn (fun (t0_72 : Int) (h_72 : AH) => jn (fun  (h_217 : AH) => Q t0_72 h_217) (fun k_217 : AH → Prop => jn (fun  (h_129 : AH) => jn (fun  (h_152 : AH) => ((a1 = (32 : Int)) → k_217  h_152) ∧ ((¬ (a1 = (32 : Int))) → okI h_152 a4 a2 ∧ inR ((2 : Int) * (haI h_152 a4 a2)) ∧ inR (((2 : Int) * (haI h_152 a4 a2)) - (1 : Int)) ∧ ∀ x8_166 : Int, x8_166 = (((2 : Int) * (haI h_152 a4 a2)) - (1 : Int)) → ∃ I_168 : Nat → Int → AH → Prop, (∃ n, I_168 n x8_166 h_152) ∧ ∀ (n_168 : Nat) (x8_168 : Int) (h_168 : AH), I_168 n_168 x8_168 h_168 → (inR ((2 : Int) * x5_3) ∧ ((x8_168 < ((2 : Int) * x5_3)) → inR ((2 : Int) * x5_3) ∧ okW h_168 a3 ((2 : Int) * x5_3) ∧ ∀ h199 : AH, h199 = saI h_168 a3 (u1 (haI h_168 a3) ((2 : Int) * x5_3) a0) → inR ((2 : Int) * x5_3) ∧ inR (((2 : Int) * x5_3) + (1 : Int)) ∧ okW h199 a3 (((2 : Int) * x5_3) + (1 : Int)) ∧ ∀ h208 : AH, h208 = saI h199 a3 (u1 (haI h199 a3) (((2 : Int) * x5_3) + (1 : Int)) a1) → okI h208 a4 a2 ∧ inR ((haI h208 a4 a2) + (1 : Int)) ∧ okW h208 a4 a2 ∧ ∀ h216 : AH, h216 = saI h208 a4 (u1 (haI h208 a4) a2 ((haI h208 a4 a2) + (1 : Int))) → k_217  h216) ∧ ((¬ (x8_168 < ((2 : Int) * x5_3))) → inR (x8_168 + (2 : Int)) ∧ okI h_168 a3 x8_168 ∧ okW h_168 a3 (x8_168 + (2 : Int)) ∧ ∀ h186 : AH, h186 = saI h_168 a3 (u1 (haI h_168 a3) (x8_168 + (2 : Int)) (haI h_168 a3 x8_168)) → inR (x8_168 + (-1)) ∧ ∀ x8_187 : Int, x8_187 = (x8_168 + (-1)) → ∃ m, m < n_168 ∧ I_168 m x8_187 h186)))) (fun k_152 : AH → Prop => ((a1 = (32 : Int)) → k_152  h_129) ∧ ((¬ (a1 = (32 : Int))) → ((t0_52 = 0) → k_152  h_129) ∧ ((¬ (t0_52 = 0)) → inR ((2 : Int) * x5_3) ∧ inR (((2 : Int) * x5_3) + (1 : Int)) ∧ okW h_129 a3 (((2 : Int) * x5_3) + (1 : Int)) ∧ ∀ h148 : AH, h148 = saI h_129 a3 (u1 (haI h_129 a3) (((2 : Int) * x5_3) + (1 : Int)) a1) → k_217  h148)))) (fun k_129 : AH → Prop => ((¬ a1 = (32 : Int)) → k_129  h_72) ∧ ((a1 = (32 : Int)) → ((t0_52 = 0) → k_129  h_72) ∧ ((¬ (t0_52 = 0)) → okI h_72 a4 a2 ∧ inR ((haI h_72 a4 a2) - (1 : Int)) ∧ okW h_72 a4 a2 ∧ ∀ h92 : AH, h92 = saI h_72 a4 (u1 (haI h_72 a4) a2 ((haI h_72 a4 a2) - (1 : Int))) → inR ((2 : Int) * x5_3) ∧ ∀ x8_97 : Int, x8_97 = ((2 : Int) * x5_3) → ∃ I_99 : Nat → Int → AH → Prop, (∃ n, I_99 n x8_97 h92) ∧ ∀ (n_99 : Nat) (x8_99 : Int) (h_99 : AH), I_99 n_99 x8_99 h_99 → (okI h_99 a4 a2 ∧ inR ((2 : Int) * (haI h_99 a4 a2)) ∧ ((((2 : Int) * (haI h_99 a4 a2)) ≤ x8_99) → k_217  h_99) ∧ ((¬ (((2 : Int) * (haI h_99 a4 a2)) ≤ x8_99)) → inR (x8_99 + (2 : Int)) ∧ okI h_99 a3 (x8_99 + (2 : Int)) ∧ okW h_99 a3 x8_99 ∧ ∀ h119 : AH, h119 = saI h_99 a3 (u1 (haI h_99 a3) x8_99 (haI h_99 a3 (x8_99 + (2 : Int)))) → inR (x8_99 + 1) ∧ ∀ x8_120 : Int, x8_120 = (x8_99 + 1) → ∃ m, m < n_99 ∧ I_99 m x8_120 h119))))))) (fun k_72 : Int → AH → Prop => ((t0_52 = 0) → k_72 (32 : Int) h_52) ∧ ((¬ (t0_52 = 0)) → inR ((2 : Int) * x5_3) ∧ inR (((2 : Int) * x5_3) + (1 : Int)) ∧ okI h_52 a3 (((2 : Int) * x5_3) + (1 : Int)) ∧ k_72 (haI h_52 a3 (((2 : Int) * x5_3) + (1 : Int))) h_52))) (fun k_52 : Int → AH → Prop => jn (fun  (h_51 : AH) => k_52 (0 : Int) h_51) (fun k_51 : AH → Prop => (((haI h_28 a4 a2) ≤ x5_3) → k_51  h_28) ∧ ((¬ ((haI h_28 a4 a2) ≤ x5_3)) → inR ((2 : Int) * x5_3) ∧ okI h_28 a3 ((2 : Int) * x5_3) ∧ ((¬ (haI h_28 a3 ((2 : Int) * x5_3)) = a0) → k_51  h_28) ∧ (((haI h_28 a3 ((2 : Int) * x5_3)) = a0) → k_52 (1 : Int) h_28))))) (fun k_28 : AH → Prop => (((haI h_3 a4 a2) ≤ x5_3) → k_28  h_3) ∧ ((¬ ((haI h_3 a4 a2) ≤ x5_3)) → inR ((2 : Int) * x5_3) ∧ okI h_3 a3 ((2 : Int) * x5_3) ∧ ((a0 ≤ (haI h_3 a3 ((2 : Int) * x5_3))) → k_28  h_3) ∧ ((¬ (a0 ≤ (haI h_3 a3 ((2 : Int) * x5_3)))) → inR (x5_3 + 1) ∧ ∀ x5_22 : Int, x5_22 = (x5_3 + 1) → ∃ m, m < n_3 ∧ I_3 m x5_22 h_3))))
set_option maxRecDepth 100000 in
set_option maxHeartbeats 4000000 in
theorem met_L_change (G : GG) (l : Launch) : ∀ (As : List Value) (a0 : Int) (a1 : Int) (a2 : Int) (a3 : Nat) (a4 : Nat) (h : AH) (Q : Int → AH → Prop), As.map ab = List.map some ([vI a0, vI a1, vI a2, vR a3, vR a4] : List AV) → w_L_change G.2.2 a0 a1 a2 a3 a4 h Q → Met l yL_change (.code yL_change cL_change 9 (some .int) :: xTb) ({ frames := 0, cells := 0, slots := 0, locals := 0 } : Room) (PcA G As h) (QG G (oI Q)) 0 0 (frA G) := by
  intro As a0 a1 a2 a3 a4 h Q hA hw
  refine met_of hA (by decide) (Nat.le_of_ble_eq_true rfl) (fun p e s m args below meth c C hml hr hnm => ?_)
  unfold w_L_change at hw
  refine aw_iconst (pc := 0) C dL_change_0 (i := (0 : Int)) (by decide) ?_
  refine aw_istore (pc := 1) C dL_change_1 (by rw [hml]; decide) ?_
  obtain ⟨I_3, ⟨n9, hi9⟩, hst9⟩ := hw
  have L_3 : ∀ (n_3 : Nat) (x5_3 : Int) (h_3 : AH), I_3 n_3 x5_3 h_3 → AW G p l e ({ frames := 0, cells := 0, slots := 0, locals := 0 } : Room) s m args below meth c 0 0 (MQ below (QG G (oI Q)) args s 0 0 (frA G)) 3 (eOf [(0, vI a0), (1, vI a1), (2, vI a2), (3, vR a3), (4, vR a4), (5, vI x5_3)]) [] h_3 := by
    intro n_3
    induction n_3 using Nat.strongRecOn with
    | _ n_3 ih_3 =>
    intro x5_3 h_3 hi9
    have hw := hst9 n_3 x5_3 h_3 hi9
    refine aw_iload (pc := 3) C dL_change_3 rfl ?_
    refine aw_aload (pc := 5) C dL_change_5 rfl ?_
    refine aw_iload_n (pc := 7) C dL_change_7 rfl rfl ?_
    obtain ⟨⟨k9, hp9⟩, hw⟩ := hw
    refine aw_iald (pc := 8) C dL_change_8 hp9 ?_
    obtain ⟨k_28, hk_28, hw⟩ := jn_out hw
    have J_28 : ∀  (h_28 : AH), k_28  h_28 → AW G p l e ({ frames := 0, cells := 0, slots := 0, locals := 0 } : Room) s m args below meth c 0 0 (MQ below (QG G (oI Q)) args s 0 0 (frA G)) 28 (eOf [(0, vI a0), (1, vI a1), (2, vI a2), (3, vR a3), (4, vR a4), (5, vI x5_3)]) [] h_28 := by
      intro  h_28 hw
      rw [hk_28] at hw
      refine aw_iload (pc := 28) C dL_change_28 rfl ?_
      refine aw_aload (pc := 30) C dL_change_30 rfl ?_
      refine aw_iload_n (pc := 32) C dL_change_32 rfl rfl ?_
      obtain ⟨⟨k9, hp9⟩, hw⟩ := hw
      refine aw_iald (pc := 33) C dL_change_33 hp9 ?_
      obtain ⟨k_52, hk_52, hw⟩ := jn_out hw
      have J_52 : ∀ (t0_52 : Int) (h_52 : AH), k_52 t0_52 h_52 → AW G p l e ({ frames := 0, cells := 0, slots := 0, locals := 0 } : Room) s m args below meth c 0 0 (MQ below (QG G (oI Q)) args s 0 0 (frA G)) 52 (eOf [(0, vI a0), (1, vI a1), (2, vI a2), (3, vR a3), (4, vR a4), (5, vI x5_3)]) [vI t0_52] h_52 := by
        intro t0_52 h_52 hw
        rw [hk_52] at hw
        refine aw_istore (pc := 52) C dL_change_52 (by rw [hml]; decide) ?_
        refine aw_iload (pc := 54) C dL_change_54 rfl ?_
        obtain ⟨k_72, hk_72, hw⟩ := jn_out hw
        have J_72 : ∀ (t0_72 : Int) (h_72 : AH), k_72 t0_72 h_72 → AW G p l e ({ frames := 0, cells := 0, slots := 0, locals := 0 } : Room) s m args below meth c 0 0 (MQ below (QG G (oI Q)) args s 0 0 (frA G)) 72 (eOf [(0, vI a0), (1, vI a1), (2, vI a2), (3, vR a3), (4, vR a4), (5, vI x5_3), (6, vI t0_52)]) [vI t0_72] h_72 := by
          intro t0_72 h_72 hw
          rw [hk_72] at hw
          refine aw_istore (pc := 72) C dL_change_72 (by rw [hml]; decide) ?_
          refine aw_iload_n (pc := 74) C dL_change_74 rfl rfl ?_
          refine aw_bipush (pc := 75) C dL_change_75 (i := (32 : Int)) (by decide) ?_
          obtain ⟨k_217, hk_217, hw⟩ := jn_out hw
          have J_217 : ∀  (h_217 : AH), k_217  h_217 → AW G p l e ({ frames := 0, cells := 0, slots := 0, locals := 0 } : Room) s m args below meth c 0 0 (MQ below (QG G (oI Q)) args s 0 0 (frA G)) 217 (eOf [(7, vI t0_72)]) [] h_217 := by
            intro  h_217 hw
            rw [hk_217] at hw
            refine aw_iload (pc := 217) C dL_change_217 rfl ?_
            exact aw_iret (pc := 219) C hr dL_change_219 ⟨Nat.le_of_ble_eq_true rfl, Nat.le_of_ble_eq_true rfl⟩ ⟨_, rfl, hw⟩
          obtain ⟨k_129, hk_129, hw⟩ := jn_out hw
          have J_129 : ∀  (h_129 : AH), k_129  h_129 → AW G p l e ({ frames := 0, cells := 0, slots := 0, locals := 0 } : Room) s m args below meth c 0 0 (MQ below (QG G (oI Q)) args s 0 0 (frA G)) 129 (eOf [(0, vI a0), (1, vI a1), (2, vI a2), (3, vR a3), (4, vR a4), (5, vI x5_3), (6, vI t0_52), (7, vI t0_72)]) [] h_129 := by
            intro  h_129 hw
            rw [hk_129] at hw
            refine aw_iload_n (pc := 129) C dL_change_129 rfl rfl ?_
            refine aw_bipush (pc := 130) C dL_change_130 (i := (32 : Int)) (by decide) ?_
            obtain ⟨k_152, hk_152, hw⟩ := jn_out hw
            have J_152 : ∀  (h_152 : AH), k_152  h_152 → AW G p l e ({ frames := 0, cells := 0, slots := 0, locals := 0 } : Room) s m args below meth c 0 0 (MQ below (QG G (oI Q)) args s 0 0 (frA G)) 152 (eOf [(0, vI a0), (1, vI a1), (2, vI a2), (3, vR a3), (4, vR a4), (5, vI x5_3), (7, vI t0_72)]) [] h_152 := by
              intro  h_152 hw
              rw [hk_152] at hw
              refine aw_iload_n (pc := 152) C dL_change_152 rfl rfl ?_
              refine aw_bipush (pc := 153) C dL_change_153 (i := (32 : Int)) (by decide) ?_
              refine aw_icmp_eq (pc := 155) (tgt := 217) C dL_change_155 (by decide) (fun hc9 => ?_) (fun hc9 => ?_)
              · have hw := hw.1 hc9
                refine aw_sub [(7, vI t0_72)] ⟨rfl, trivial⟩ ?_
                exact J_217  _ hw
              · have hw := hw.2 hc9
                refine aw_iconst (pc := 158) C dL_change_158 (i := (2 : Int)) (by decide) ?_
                refine aw_aload (pc := 159) C dL_change_159 rfl ?_
                refine aw_iload_n (pc := 161) C dL_change_161 rfl rfl ?_
                obtain ⟨⟨k9, hp9⟩, hw⟩ := hw
                refine aw_iald (pc := 162) C dL_change_162 hp9 ?_
                obtain ⟨hp9, hw⟩ := hw
                refine aw_imul (pc := 163) C dL_change_163 hp9 ?_
                refine aw_iconst (pc := 164) C dL_change_164 (i := (1 : Int)) (by decide) ?_
                obtain ⟨hp9, hw⟩ := hw
                refine aw_isub (pc := 165) C dL_change_165 hp9 ?_
                refine aw_nmI (fun x8_166 e9 => ?_)
                have hw := hw x8_166 e9
                refine aw_istore (pc := 166) C dL_change_166 (by rw [hml]; decide) ?_
                obtain ⟨I_168, ⟨n9, hi9⟩, hst9⟩ := hw
                have L_168 : ∀ (n_168 : Nat) (x8_168 : Int) (h_168 : AH), I_168 n_168 x8_168 h_168 → AW G p l e ({ frames := 0, cells := 0, slots := 0, locals := 0 } : Room) s m args below meth c 0 0 (MQ below (QG G (oI Q)) args s 0 0 (frA G)) 168 (eOf [(0, vI a0), (1, vI a1), (2, vI a2), (3, vR a3), (4, vR a4), (5, vI x5_3), (7, vI t0_72), (8, vI x8_168)]) [] h_168 := by
                  intro n_168
                  induction n_168 using Nat.strongRecOn with
                  | _ n_168 ih_168 =>
                  intro x8_168 h_168 hi9
                  have hw := hst9 n_168 x8_168 h_168 hi9
                  refine aw_iload (pc := 168) C dL_change_168 rfl ?_
                  refine aw_iconst (pc := 170) C dL_change_170 (i := (2 : Int)) (by decide) ?_
                  refine aw_iload (pc := 171) C dL_change_171 rfl ?_
                  obtain ⟨hp9, hw⟩ := hw
                  refine aw_imul (pc := 173) C dL_change_173 hp9 ?_
                  refine aw_icmp_lt (pc := 174) (tgt := 193) C dL_change_174 (by decide) (fun hc9 => ?_) (fun hc9 => ?_)
                  · have hw := hw.1 hc9
                    refine aw_aload_n (pc := 193) C dL_change_193 rfl rfl ?_
                    refine aw_iconst (pc := 194) C dL_change_194 (i := (2 : Int)) (by decide) ?_
                    refine aw_iload (pc := 195) C dL_change_195 rfl ?_
                    obtain ⟨hp9, hw⟩ := hw
                    refine aw_imul (pc := 197) C dL_change_197 hp9 ?_
                    refine aw_iload_n (pc := 198) C dL_change_198 rfl rfl ?_
                    obtain ⟨⟨k9, hp9⟩, hw⟩ := hw
                    refine aw_iast (pc := 199) C dL_change_199 hp9 (aw_nmH (fun h199 e9 => ?_))
                    have hw := hw h199 e9
                    refine aw_aload_n (pc := 200) C dL_change_200 rfl rfl ?_
                    refine aw_iconst (pc := 201) C dL_change_201 (i := (2 : Int)) (by decide) ?_
                    refine aw_iload (pc := 202) C dL_change_202 rfl ?_
                    obtain ⟨hp9, hw⟩ := hw
                    refine aw_imul (pc := 204) C dL_change_204 hp9 ?_
                    refine aw_iconst (pc := 205) C dL_change_205 (i := (1 : Int)) (by decide) ?_
                    obtain ⟨hp9, hw⟩ := hw
                    refine aw_iadd (pc := 206) C dL_change_206 hp9 ?_
                    refine aw_iload_n (pc := 207) C dL_change_207 rfl rfl ?_
                    obtain ⟨⟨k9, hp9⟩, hw⟩ := hw
                    refine aw_iast (pc := 208) C dL_change_208 hp9 (aw_nmH (fun h208 e9 => ?_))
                    have hw := hw h208 e9
                    refine aw_aload (pc := 209) C dL_change_209 rfl ?_
                    refine aw_iload_n (pc := 211) C dL_change_211 rfl rfl ?_
                    refine aw_dup2 (pc := 212) C dL_change_212 rfl rfl ?_
                    obtain ⟨⟨k9, hp9⟩, hw⟩ := hw
                    refine aw_iald (pc := 213) C dL_change_213 hp9 ?_
                    refine aw_iconst (pc := 214) C dL_change_214 (i := (1 : Int)) (by decide) ?_
                    obtain ⟨hp9, hw⟩ := hw
                    refine aw_iadd (pc := 215) C dL_change_215 hp9 ?_
                    obtain ⟨⟨k9, hp9⟩, hw⟩ := hw
                    refine aw_iast (pc := 216) C dL_change_216 hp9 (aw_nmH (fun h216 e9 => ?_))
                    have hw := hw h216 e9
                    refine aw_sub [(7, vI t0_72)] ⟨rfl, trivial⟩ ?_
                    exact J_217  _ hw
                  · have hw := hw.2 hc9
                    refine aw_aload_n (pc := 177) C dL_change_177 rfl rfl ?_
                    refine aw_iload (pc := 178) C dL_change_178 rfl ?_
                    refine aw_iconst (pc := 180) C dL_change_180 (i := (2 : Int)) (by decide) ?_
                    obtain ⟨hp9, hw⟩ := hw
                    refine aw_iadd (pc := 181) C dL_change_181 hp9 ?_
                    refine aw_aload_n (pc := 182) C dL_change_182 rfl rfl ?_
                    refine aw_iload (pc := 183) C dL_change_183 rfl ?_
                    obtain ⟨⟨k9, hp9⟩, hw⟩ := hw
                    refine aw_iald (pc := 185) C dL_change_185 hp9 ?_
                    obtain ⟨⟨k9, hp9⟩, hw⟩ := hw
                    refine aw_iast (pc := 186) C dL_change_186 hp9 (aw_nmH (fun h186 e9 => ?_))
                    have hw := hw h186 e9
                    obtain ⟨hp9, hw⟩ := hw
                    refine aw_iincN (pc := 187) C dL_change_187 (k := (-1)) (by decide) rfl (by rw [hml]; decide) hp9 (fun x8_187 e9 => ?_)
                    have hw := hw x8_187 e9
                    refine aw_goto (pc := 190) (tgt := 168) C dL_change_190 (by decide) ?_
                    obtain ⟨m9, hm9, hw⟩ := hw
                    refine aw_sub [(0, vI a0), (1, vI a1), (2, vI a2), (3, vR a3), (4, vR a4), (5, vI x5_3), (7, vI t0_72), (8, vI x8_187)] ⟨rfl, rfl, rfl, rfl, rfl, rfl, rfl, rfl, trivial⟩ ?_
                    exact ih_168 m9 hm9 _ _ hw
                refine aw_sub [(0, vI a0), (1, vI a1), (2, vI a2), (3, vR a3), (4, vR a4), (5, vI x5_3), (7, vI t0_72), (8, vI x8_166)] ⟨rfl, rfl, rfl, rfl, rfl, rfl, rfl, rfl, trivial⟩ ?_
                exact L_168 n9 _ _ hi9
            refine aw_icmp_eq (pc := 132) (tgt := 152) C dL_change_132 (by decide) (fun hc9 => ?_) (fun hc9 => ?_)
            · have hw := hw.1 hc9
              refine aw_sub [(0, vI a0), (1, vI a1), (2, vI a2), (3, vR a3), (4, vR a4), (5, vI x5_3), (7, vI t0_72)] ⟨rfl, rfl, rfl, rfl, rfl, rfl, rfl, trivial⟩ ?_
              exact J_152  _ hw
            · have hw := hw.2 hc9
              refine aw_iload (pc := 135) C dL_change_135 rfl ?_
              refine aw_if_eq (pc := 137) (tgt := 152) C dL_change_137 (by decide) (fun hc9 => ?_) (fun hc9 => ?_)
              · have hw := hw.1 hc9
                refine aw_sub [(0, vI a0), (1, vI a1), (2, vI a2), (3, vR a3), (4, vR a4), (5, vI x5_3), (7, vI t0_72)] ⟨rfl, rfl, rfl, rfl, rfl, rfl, rfl, trivial⟩ ?_
                exact J_152  _ hw
              · have hw := hw.2 hc9
                refine aw_aload_n (pc := 140) C dL_change_140 rfl rfl ?_
                refine aw_iconst (pc := 141) C dL_change_141 (i := (2 : Int)) (by decide) ?_
                refine aw_iload (pc := 142) C dL_change_142 rfl ?_
                obtain ⟨hp9, hw⟩ := hw
                refine aw_imul (pc := 144) C dL_change_144 hp9 ?_
                refine aw_iconst (pc := 145) C dL_change_145 (i := (1 : Int)) (by decide) ?_
                obtain ⟨hp9, hw⟩ := hw
                refine aw_iadd (pc := 146) C dL_change_146 hp9 ?_
                refine aw_iload_n (pc := 147) C dL_change_147 rfl rfl ?_
                obtain ⟨⟨k9, hp9⟩, hw⟩ := hw
                refine aw_iast (pc := 148) C dL_change_148 hp9 (aw_nmH (fun h148 e9 => ?_))
                have hw := hw h148 e9
                refine aw_goto (pc := 149) (tgt := 217) C dL_change_149 (by decide) ?_
                refine aw_sub [(7, vI t0_72)] ⟨rfl, trivial⟩ ?_
                exact J_217  _ hw
          refine aw_icmp_ne (pc := 77) (tgt := 129) C dL_change_77 (by decide) (fun hc9 => ?_) (fun hc9 => ?_)
          · have hw := hw.1 hc9
            refine aw_sub [(0, vI a0), (1, vI a1), (2, vI a2), (3, vR a3), (4, vR a4), (5, vI x5_3), (6, vI t0_52), (7, vI t0_72)] ⟨rfl, rfl, rfl, rfl, rfl, rfl, rfl, rfl, trivial⟩ ?_
            exact J_129  _ hw
          · have hw := hw.2 hc9
            refine aw_iload (pc := 80) C dL_change_80 rfl ?_
            refine aw_if_eq (pc := 82) (tgt := 129) C dL_change_82 (by decide) (fun hc9 => ?_) (fun hc9 => ?_)
            · have hw := hw.1 hc9
              refine aw_sub [(0, vI a0), (1, vI a1), (2, vI a2), (3, vR a3), (4, vR a4), (5, vI x5_3), (6, vI t0_52), (7, vI t0_72)] ⟨rfl, rfl, rfl, rfl, rfl, rfl, rfl, rfl, trivial⟩ ?_
              exact J_129  _ hw
            · have hw := hw.2 hc9
              refine aw_aload (pc := 85) C dL_change_85 rfl ?_
              refine aw_iload_n (pc := 87) C dL_change_87 rfl rfl ?_
              refine aw_dup2 (pc := 88) C dL_change_88 rfl rfl ?_
              obtain ⟨⟨k9, hp9⟩, hw⟩ := hw
              refine aw_iald (pc := 89) C dL_change_89 hp9 ?_
              refine aw_iconst (pc := 90) C dL_change_90 (i := (1 : Int)) (by decide) ?_
              obtain ⟨hp9, hw⟩ := hw
              refine aw_isub (pc := 91) C dL_change_91 hp9 ?_
              obtain ⟨⟨k9, hp9⟩, hw⟩ := hw
              refine aw_iast (pc := 92) C dL_change_92 hp9 (aw_nmH (fun h92 e9 => ?_))
              have hw := hw h92 e9
              refine aw_iconst (pc := 93) C dL_change_93 (i := (2 : Int)) (by decide) ?_
              refine aw_iload (pc := 94) C dL_change_94 rfl ?_
              obtain ⟨hp9, hw⟩ := hw
              refine aw_imul (pc := 96) C dL_change_96 hp9 ?_
              refine aw_nmI (fun x8_97 e9 => ?_)
              have hw := hw x8_97 e9
              refine aw_istore (pc := 97) C dL_change_97 (by rw [hml]; decide) ?_
              obtain ⟨I_99, ⟨n9, hi9⟩, hst9⟩ := hw
              have L_99 : ∀ (n_99 : Nat) (x8_99 : Int) (h_99 : AH), I_99 n_99 x8_99 h_99 → AW G p l e ({ frames := 0, cells := 0, slots := 0, locals := 0 } : Room) s m args below meth c 0 0 (MQ below (QG G (oI Q)) args s 0 0 (frA G)) 99 (eOf [(2, vI a2), (3, vR a3), (4, vR a4), (7, vI t0_72), (8, vI x8_99)]) [] h_99 := by
                intro n_99
                induction n_99 using Nat.strongRecOn with
                | _ n_99 ih_99 =>
                intro x8_99 h_99 hi9
                have hw := hst9 n_99 x8_99 h_99 hi9
                refine aw_iload (pc := 99) C dL_change_99 rfl ?_
                refine aw_iconst (pc := 101) C dL_change_101 (i := (2 : Int)) (by decide) ?_
                refine aw_aload (pc := 102) C dL_change_102 rfl ?_
                refine aw_iload_n (pc := 104) C dL_change_104 rfl rfl ?_
                obtain ⟨⟨k9, hp9⟩, hw⟩ := hw
                refine aw_iald (pc := 105) C dL_change_105 hp9 ?_
                obtain ⟨hp9, hw⟩ := hw
                refine aw_imul (pc := 106) C dL_change_106 hp9 ?_
                refine aw_icmp_ge (pc := 107) (tgt := 126) C dL_change_107 (by decide) (fun hc9 => ?_) (fun hc9 => ?_)
                · have hw := hw.1 hc9
                  refine aw_goto (pc := 126) (tgt := 217) C dL_change_126 (by decide) ?_
                  refine aw_sub [(7, vI t0_72)] ⟨rfl, trivial⟩ ?_
                  exact J_217  _ hw
                · have hw := hw.2 hc9
                  refine aw_aload_n (pc := 110) C dL_change_110 rfl rfl ?_
                  refine aw_iload (pc := 111) C dL_change_111 rfl ?_
                  refine aw_aload_n (pc := 113) C dL_change_113 rfl rfl ?_
                  refine aw_iload (pc := 114) C dL_change_114 rfl ?_
                  refine aw_iconst (pc := 116) C dL_change_116 (i := (2 : Int)) (by decide) ?_
                  obtain ⟨hp9, hw⟩ := hw
                  refine aw_iadd (pc := 117) C dL_change_117 hp9 ?_
                  obtain ⟨⟨k9, hp9⟩, hw⟩ := hw
                  refine aw_iald (pc := 118) C dL_change_118 hp9 ?_
                  obtain ⟨⟨k9, hp9⟩, hw⟩ := hw
                  refine aw_iast (pc := 119) C dL_change_119 hp9 (aw_nmH (fun h119 e9 => ?_))
                  have hw := hw h119 e9
                  obtain ⟨hp9, hw⟩ := hw
                  refine aw_iincN (pc := 120) C dL_change_120 (k := 1) (by decide) rfl (by rw [hml]; decide) hp9 (fun x8_120 e9 => ?_)
                  have hw := hw x8_120 e9
                  refine aw_goto (pc := 123) (tgt := 99) C dL_change_123 (by decide) ?_
                  obtain ⟨m9, hm9, hw⟩ := hw
                  refine aw_sub [(2, vI a2), (3, vR a3), (4, vR a4), (7, vI t0_72), (8, vI x8_120)] ⟨rfl, rfl, rfl, rfl, rfl, trivial⟩ ?_
                  exact ih_99 m9 hm9 _ _ hw
              refine aw_sub [(2, vI a2), (3, vR a3), (4, vR a4), (7, vI t0_72), (8, vI x8_97)] ⟨rfl, rfl, rfl, rfl, rfl, trivial⟩ ?_
              exact L_99 n9 _ _ hi9
        refine aw_if_eq (pc := 56) (tgt := 70) C dL_change_56 (by decide) (fun hc9 => ?_) (fun hc9 => ?_)
        · have hw := hw.1 hc9
          refine aw_bipush (pc := 70) C dL_change_70 (i := (32 : Int)) (by decide) ?_
          refine aw_sub [(0, vI a0), (1, vI a1), (2, vI a2), (3, vR a3), (4, vR a4), (5, vI x5_3), (6, vI t0_52)] ⟨rfl, rfl, rfl, rfl, rfl, rfl, rfl, trivial⟩ ?_
          exact J_72 _ _ hw
        · have hw := hw.2 hc9
          refine aw_aload_n (pc := 59) C dL_change_59 rfl rfl ?_
          refine aw_iconst (pc := 60) C dL_change_60 (i := (2 : Int)) (by decide) ?_
          refine aw_iload (pc := 61) C dL_change_61 rfl ?_
          obtain ⟨hp9, hw⟩ := hw
          refine aw_imul (pc := 63) C dL_change_63 hp9 ?_
          refine aw_iconst (pc := 64) C dL_change_64 (i := (1 : Int)) (by decide) ?_
          obtain ⟨hp9, hw⟩ := hw
          refine aw_iadd (pc := 65) C dL_change_65 hp9 ?_
          obtain ⟨⟨k9, hp9⟩, hw⟩ := hw
          refine aw_iald (pc := 66) C dL_change_66 hp9 ?_
          refine aw_goto (pc := 67) (tgt := 72) C dL_change_67 (by decide) ?_
          refine aw_sub [(0, vI a0), (1, vI a1), (2, vI a2), (3, vR a3), (4, vR a4), (5, vI x5_3), (6, vI t0_52)] ⟨rfl, rfl, rfl, rfl, rfl, rfl, rfl, trivial⟩ ?_
          exact J_72 _ _ hw
      obtain ⟨k_51, hk_51, hw⟩ := jn_out hw
      have J_51 : ∀  (h_51 : AH), k_51  h_51 → AW G p l e ({ frames := 0, cells := 0, slots := 0, locals := 0 } : Room) s m args below meth c 0 0 (MQ below (QG G (oI Q)) args s 0 0 (frA G)) 51 (eOf [(0, vI a0), (1, vI a1), (2, vI a2), (3, vR a3), (4, vR a4), (5, vI x5_3)]) [] h_51 := by
        intro  h_51 hw
        rw [hk_51] at hw
        refine aw_iconst (pc := 51) C dL_change_51 (i := (0 : Int)) (by decide) ?_
        refine aw_sub [(0, vI a0), (1, vI a1), (2, vI a2), (3, vR a3), (4, vR a4), (5, vI x5_3)] ⟨rfl, rfl, rfl, rfl, rfl, rfl, trivial⟩ ?_
        exact J_52 _ _ hw
      refine aw_icmp_ge (pc := 34) (tgt := 51) C dL_change_34 (by decide) (fun hc9 => ?_) (fun hc9 => ?_)
      · have hw := hw.1 hc9
        refine aw_sub [(0, vI a0), (1, vI a1), (2, vI a2), (3, vR a3), (4, vR a4), (5, vI x5_3)] ⟨rfl, rfl, rfl, rfl, rfl, rfl, trivial⟩ ?_
        exact J_51  _ hw
      · have hw := hw.2 hc9
        refine aw_aload_n (pc := 37) C dL_change_37 rfl rfl ?_
        refine aw_iconst (pc := 38) C dL_change_38 (i := (2 : Int)) (by decide) ?_
        refine aw_iload (pc := 39) C dL_change_39 rfl ?_
        obtain ⟨hp9, hw⟩ := hw
        refine aw_imul (pc := 41) C dL_change_41 hp9 ?_
        obtain ⟨⟨k9, hp9⟩, hw⟩ := hw
        refine aw_iald (pc := 42) C dL_change_42 hp9 ?_
        refine aw_iload_n (pc := 43) C dL_change_43 rfl rfl ?_
        refine aw_icmp_ne (pc := 44) (tgt := 51) C dL_change_44 (by decide) (fun hc9 => ?_) (fun hc9 => ?_)
        · have hw := hw.1 hc9
          refine aw_sub [(0, vI a0), (1, vI a1), (2, vI a2), (3, vR a3), (4, vR a4), (5, vI x5_3)] ⟨rfl, rfl, rfl, rfl, rfl, rfl, trivial⟩ ?_
          exact J_51  _ hw
        · have hw := hw.2 hc9
          refine aw_iconst (pc := 47) C dL_change_47 (i := (1 : Int)) (by decide) ?_
          refine aw_goto (pc := 48) (tgt := 52) C dL_change_48 (by decide) ?_
          refine aw_sub [(0, vI a0), (1, vI a1), (2, vI a2), (3, vR a3), (4, vR a4), (5, vI x5_3)] ⟨rfl, rfl, rfl, rfl, rfl, rfl, trivial⟩ ?_
          exact J_52 _ _ hw
    refine aw_icmp_ge (pc := 9) (tgt := 28) C dL_change_9 (by decide) (fun hc9 => ?_) (fun hc9 => ?_)
    · have hw := hw.1 hc9
      refine aw_sub [(0, vI a0), (1, vI a1), (2, vI a2), (3, vR a3), (4, vR a4), (5, vI x5_3)] ⟨rfl, rfl, rfl, rfl, rfl, rfl, trivial⟩ ?_
      exact J_28  _ hw
    · have hw := hw.2 hc9
      refine aw_aload_n (pc := 12) C dL_change_12 rfl rfl ?_
      refine aw_iconst (pc := 13) C dL_change_13 (i := (2 : Int)) (by decide) ?_
      refine aw_iload (pc := 14) C dL_change_14 rfl ?_
      obtain ⟨hp9, hw⟩ := hw
      refine aw_imul (pc := 16) C dL_change_16 hp9 ?_
      obtain ⟨⟨k9, hp9⟩, hw⟩ := hw
      refine aw_iald (pc := 17) C dL_change_17 hp9 ?_
      refine aw_iload_n (pc := 18) C dL_change_18 rfl rfl ?_
      refine aw_icmp_ge (pc := 19) (tgt := 28) C dL_change_19 (by decide) (fun hc9 => ?_) (fun hc9 => ?_)
      · have hw := hw.1 hc9
        refine aw_sub [(0, vI a0), (1, vI a1), (2, vI a2), (3, vR a3), (4, vR a4), (5, vI x5_3)] ⟨rfl, rfl, rfl, rfl, rfl, rfl, trivial⟩ ?_
        exact J_28  _ hw
      · have hw := hw.2 hc9
        obtain ⟨hp9, hw⟩ := hw
        refine aw_iincN (pc := 22) C dL_change_22 (k := 1) (by decide) rfl (by rw [hml]; decide) hp9 (fun x5_22 e9 => ?_)
        have hw := hw x5_22 e9
        refine aw_goto (pc := 25) (tgt := 3) C dL_change_25 (by decide) ?_
        obtain ⟨m9, hm9, hw⟩ := hw
        refine aw_sub [(0, vI a0), (1, vI a1), (2, vI a2), (3, vR a3), (4, vR a4), (5, vI x5_22)] ⟨rfl, rfl, rfl, rfl, rfl, rfl, trivial⟩ ?_
        exact ih_3 m9 hm9 _ _ hw
  refine aw_sub [(0, vI a0), (1, vI a1), (2, vI a2), (3, vR a3), (4, vR a4), (5, vI (0 : Int))] ⟨rfl, rfl, rfl, rfl, rfl, rfl, trivial⟩ ?_
  exact L_3 n9 _ _ hi9
theorem dL_load_0 : decode cL_load 0 = .ok (.iconst 0, 1) := by decide +kernel
theorem dL_load_1 : decode cL_load 1 = .ok (.istore 6, 2) := by decide +kernel
theorem dL_load_3 : decode cL_load 3 = .ok (.aload 5, 2) := by decide +kernel
theorem dL_load_5 : decode cL_load 5 = .ok (.iload_n 1, 1) := by decide +kernel
theorem dL_load_6 : decode cL_load 6 = .ok (.iconst 0, 1) := by decide +kernel
theorem dL_load_7 : decode cL_load 7 = .ok (.iastore, 1) := by decide +kernel
theorem dL_load_8 : decode cL_load 8 = .ok (.aload_n 0, 1) := by decide +kernel
theorem dL_load_9 : decode cL_load 9 = .ok (.invokevirtual 95, 3) := by decide +kernel
theorem dL_load_12 : decode cL_load 12 = .ok (.pop, 1) := by decide +kernel
theorem dL_load_13 : decode cL_load 13 = .ok (.iconst 1, 1) := by decide +kernel
theorem dL_load_14 : decode cL_load 14 = .ok (.iload_n 2, 1) := by decide +kernel
theorem dL_load_15 : decode cL_load 15 = .ok (.iconst 4, 1) := by decide +kernel
theorem dL_load_16 : decode cL_load 16 = .ok (.invokestatic 99, 3) := by decide +kernel
theorem dL_load_19 : decode cL_load 19 = .ok (.iadd, 1) := by decide +kernel
theorem dL_load_20 : decode cL_load 20 = .ok (.istore 7, 2) := by decide +kernel
theorem dL_load_22 : decode cL_load 22 = .ok (.iconst 0, 1) := by decide +kernel
theorem dL_load_23 : decode cL_load 23 = .ok (.istore 8, 2) := by decide +kernel
theorem dL_load_25 : decode cL_load 25 = .ok (.iload 8, 2) := by decide +kernel
theorem dL_load_27 : decode cL_load 27 = .ok (.iload 7, 2) := by decide +kernel
theorem dL_load_29 : decode cL_load 29 = .ok (.if_icmp .ge 190, 3) := by decide +kernel
theorem dL_load_32 : decode cL_load 32 = .ok (.iload 8, 2) := by decide +kernel
theorem dL_load_34 : decode cL_load 34 = .ok (.ifCond .le 19, 3) := by decide +kernel
theorem dL_load_37 : decode cL_load 37 = .ok (.aload_n 0, 1) := by decide +kernel
theorem dL_load_38 : decode cL_load 38 = .ok (.bipush 47, 2) := by decide +kernel
theorem dL_load_40 : decode cL_load 40 = .ok (.invokevirtual 101, 3) := by decide +kernel
theorem dL_load_43 : decode cL_load 43 = .ok (.iinc 6 1, 3) := by decide +kernel
theorem dL_load_46 : decode cL_load 46 = .ok (.iload 6, 2) := by decide +kernel
theorem dL_load_48 : decode cL_load 48 = .ok (.if_icmp .eq 5, 3) := by decide +kernel
theorem dL_load_51 : decode cL_load 51 = .ok (.iconst 0, 1) := by decide +kernel
theorem dL_load_52 : decode cL_load 52 = .ok (.ireturn, 1) := by decide +kernel
theorem dL_load_53 : decode cL_load 53 = .ok (.iload_n 3, 1) := by decide +kernel
theorem dL_load_54 : decode cL_load 54 = .ok (.iconst 2, 1) := by decide +kernel
theorem dL_load_55 : decode cL_load 55 = .ok (.iload 8, 2) := by decide +kernel
theorem dL_load_57 : decode cL_load 57 = .ok (.imul, 1) := by decide +kernel
theorem dL_load_58 : decode cL_load 58 = .ok (.ishr, 1) := by decide +kernel
theorem dL_load_59 : decode cL_load 59 = .ok (.bipush 9, 2) := by decide +kernel
theorem dL_load_61 : decode cL_load 61 = .ok (.invokestatic 99, 3) := by decide +kernel
theorem dL_load_64 : decode cL_load 64 = .ok (.istore 9, 2) := by decide +kernel
theorem dL_load_66 : decode cL_load 66 = .ok (.iconst 0, 1) := by decide +kernel
theorem dL_load_67 : decode cL_load 67 = .ok (.istore 10, 2) := by decide +kernel
theorem dL_load_69 : decode cL_load 69 = .ok (.iload 10, 2) := by decide +kernel
theorem dL_load_71 : decode cL_load 71 = .ok (.iload 9, 2) := by decide +kernel
theorem dL_load_73 : decode cL_load 73 = .ok (.if_icmp .ge 140, 3) := by decide +kernel
theorem dL_load_76 : decode cL_load 76 = .ok (.aload 5, 2) := by decide +kernel
theorem dL_load_78 : decode cL_load 78 = .ok (.iload_n 1, 1) := by decide +kernel
theorem dL_load_79 : decode cL_load 79 = .ok (.iaload, 1) := by decide +kernel
theorem dL_load_80 : decode cL_load 80 = .ok (.bipush 8, 2) := by decide +kernel
theorem dL_load_82 : decode cL_load 82 = .ok (.if_icmp .ge 29, 3) := by decide +kernel
theorem dL_load_85 : decode cL_load 85 = .ok (.iload_n 2, 1) := by decide +kernel
theorem dL_load_86 : decode cL_load 86 = .ok (.iload 10, 2) := by decide +kernel
theorem dL_load_88 : decode cL_load 88 = .ok (.iload 8, 2) := by decide +kernel
theorem dL_load_90 : decode cL_load 90 = .ok (.iadd, 1) := by decide +kernel
theorem dL_load_91 : decode cL_load 91 = .ok (.ishr, 1) := by decide +kernel
theorem dL_load_92 : decode cL_load 92 = .ok (.iconst 5, 1) := by decide +kernel
theorem dL_load_93 : decode cL_load 93 = .ok (.iload 8, 2) := by decide +kernel
theorem dL_load_95 : decode cL_load 95 = .ok (.imul, 1) := by decide +kernel
theorem dL_load_96 : decode cL_load 96 = .ok (.iadd, 1) := by decide +kernel
theorem dL_load_97 : decode cL_load 97 = .ok (.iload 10, 2) := by decide +kernel
theorem dL_load_99 : decode cL_load 99 = .ok (.iadd, 1) := by decide +kernel
theorem dL_load_100 : decode cL_load 100 = .ok (.iconst 3, 1) := by decide +kernel
theorem dL_load_101 : decode cL_load 101 = .ok (.invokestatic 99, 3) := by decide +kernel
theorem dL_load_104 : decode cL_load 104 = .ok (.ifCond .le 7, 3) := by decide +kernel
theorem dL_load_107 : decode cL_load 107 = .ok (.iconst 1, 1) := by decide +kernel
theorem dL_load_108 : decode cL_load 108 = .ok (.goto 4, 3) := by decide +kernel
theorem dL_load_111 : decode cL_load 111 = .ok (.iconst 0, 1) := by decide +kernel
theorem dL_load_112 : decode cL_load 112 = .ok (.istore 11, 2) := by decide +kernel
theorem dL_load_114 : decode cL_load 114 = .ok (.iload 11, 2) := by decide +kernel
theorem dL_load_116 : decode cL_load 116 = .ok (.ifCond .eq 25, 3) := by decide +kernel
theorem dL_load_119 : decode cL_load 119 = .ok (.bipush 97, 2) := by decide +kernel
theorem dL_load_121 : decode cL_load 121 = .ok (.iload_n 3, 1) := by decide +kernel
theorem dL_load_122 : decode cL_load 122 = .ok (.iload 10, 2) := by decide +kernel
theorem dL_load_124 : decode cL_load 124 = .ok (.ishr, 1) := by decide +kernel
theorem dL_load_125 : decode cL_load 125 = .ok (.iconst 3, 1) := by decide +kernel
theorem dL_load_126 : decode cL_load 126 = .ok (.iload 10, 2) := by decide +kernel
theorem dL_load_128 : decode cL_load 128 = .ok (.imul, 1) := by decide +kernel
theorem dL_load_129 : decode cL_load 129 = .ok (.iadd, 1) := by decide +kernel
theorem dL_load_130 : decode cL_load 130 = .ok (.iload 8, 2) := by decide +kernel
theorem dL_load_132 : decode cL_load 132 = .ok (.iadd, 1) := by decide +kernel
theorem dL_load_133 : decode cL_load 133 = .ok (.iconst 4, 1) := by decide +kernel
theorem dL_load_134 : decode cL_load 134 = .ok (.invokestatic 99, 3) := by decide +kernel
theorem dL_load_137 : decode cL_load 137 = .ok (.iadd, 1) := by decide +kernel
theorem dL_load_138 : decode cL_load 138 = .ok (.goto 5, 3) := by decide +kernel
theorem dL_load_141 : decode cL_load 141 = .ok (.bipush 46, 2) := by decide +kernel
theorem dL_load_143 : decode cL_load 143 = .ok (.istore 12, 2) := by decide +kernel
theorem dL_load_145 : decode cL_load 145 = .ok (.aload_n 0, 1) := by decide +kernel
theorem dL_load_146 : decode cL_load 146 = .ok (.iload 12, 2) := by decide +kernel
theorem dL_load_148 : decode cL_load 148 = .ok (.invokevirtual 101, 3) := by decide +kernel
theorem dL_load_151 : decode cL_load 151 = .ok (.iinc 6 1, 3) := by decide +kernel
theorem dL_load_154 : decode cL_load 154 = .ok (.iload 6, 2) := by decide +kernel
theorem dL_load_156 : decode cL_load 156 = .ok (.if_icmp .eq 5, 3) := by decide +kernel
theorem dL_load_159 : decode cL_load 159 = .ok (.iconst 0, 1) := by decide +kernel
theorem dL_load_160 : decode cL_load 160 = .ok (.ireturn, 1) := by decide +kernel
theorem dL_load_161 : decode cL_load 161 = .ok (.iload 11, 2) := by decide +kernel
theorem dL_load_163 : decode cL_load 163 = .ok (.ifCond .ne 6, 3) := by decide +kernel
theorem dL_load_166 : decode cL_load 166 = .ok (.goto 41, 3) := by decide +kernel
theorem dL_load_169 : decode cL_load 169 = .ok (.aload 4, 2) := by decide +kernel
theorem dL_load_171 : decode cL_load 171 = .ok (.iconst 2, 1) := by decide +kernel
theorem dL_load_172 : decode cL_load 172 = .ok (.aload 5, 2) := by decide +kernel
theorem dL_load_174 : decode cL_load 174 = .ok (.iload_n 1, 1) := by decide +kernel
theorem dL_load_175 : decode cL_load 175 = .ok (.iaload, 1) := by decide +kernel
theorem dL_load_176 : decode cL_load 176 = .ok (.imul, 1) := by decide +kernel
theorem dL_load_177 : decode cL_load 177 = .ok (.bipush 16, 2) := by decide +kernel
theorem dL_load_179 : decode cL_load 179 = .ok (.iload 8, 2) := by decide +kernel
theorem dL_load_181 : decode cL_load 181 = .ok (.imul, 1) := by decide +kernel
theorem dL_load_182 : decode cL_load 182 = .ok (.iload 10, 2) := by decide +kernel
theorem dL_load_184 : decode cL_load 184 = .ok (.iadd, 1) := by decide +kernel
theorem dL_load_185 : decode cL_load 185 = .ok (.iastore, 1) := by decide +kernel
theorem dL_load_186 : decode cL_load 186 = .ok (.aload 4, 2) := by decide +kernel
theorem dL_load_188 : decode cL_load 188 = .ok (.iconst 2, 1) := by decide +kernel
theorem dL_load_189 : decode cL_load 189 = .ok (.aload 5, 2) := by decide +kernel
theorem dL_load_191 : decode cL_load 191 = .ok (.iload_n 1, 1) := by decide +kernel
theorem dL_load_192 : decode cL_load 192 = .ok (.iaload, 1) := by decide +kernel
theorem dL_load_193 : decode cL_load 193 = .ok (.imul, 1) := by decide +kernel
theorem dL_load_194 : decode cL_load 194 = .ok (.iconst 1, 1) := by decide +kernel
theorem dL_load_195 : decode cL_load 195 = .ok (.iadd, 1) := by decide +kernel
theorem dL_load_196 : decode cL_load 196 = .ok (.iload 12, 2) := by decide +kernel
theorem dL_load_198 : decode cL_load 198 = .ok (.iastore, 1) := by decide +kernel
theorem dL_load_199 : decode cL_load 199 = .ok (.aload 5, 2) := by decide +kernel
theorem dL_load_201 : decode cL_load 201 = .ok (.iload_n 1, 1) := by decide +kernel
theorem dL_load_202 : decode cL_load 202 = .ok (.dup2, 1) := by decide +kernel
theorem dL_load_203 : decode cL_load 203 = .ok (.iaload, 1) := by decide +kernel
theorem dL_load_204 : decode cL_load 204 = .ok (.iconst 1, 1) := by decide +kernel
theorem dL_load_205 : decode cL_load 205 = .ok (.iadd, 1) := by decide +kernel
theorem dL_load_206 : decode cL_load 206 = .ok (.iastore, 1) := by decide +kernel
theorem dL_load_207 : decode cL_load 207 = .ok (.iinc 10 1, 3) := by decide +kernel
theorem dL_load_210 : decode cL_load 210 = .ok (.goto (-141), 3) := by decide +kernel
theorem dL_load_213 : decode cL_load 213 = .ok (.iinc 8 1, 3) := by decide +kernel
theorem dL_load_216 : decode cL_load 216 = .ok (.goto (-191), 3) := by decide +kernel
theorem dL_load_219 : decode cL_load 219 = .ok (.aload_n 0, 1) := by decide +kernel
theorem dL_load_220 : decode cL_load 220 = .ok (.invokevirtual 104, 3) := by decide +kernel
theorem dL_load_223 : decode cL_load 223 = .ok (.iload 6, 2) := by decide +kernel
theorem dL_load_225 : decode cL_load 225 = .ok (.if_icmp .ne 26, 3) := by decide +kernel
theorem dL_load_228 : decode cL_load 228 = .ok (.aload_n 0, 1) := by decide +kernel
theorem dL_load_229 : decode cL_load 229 = .ok (.iload_n 1, 1) := by decide +kernel
theorem dL_load_230 : decode cL_load 230 = .ok (.invokevirtual 107, 3) := by decide +kernel
theorem dL_load_233 : decode cL_load 233 = .ok (.aload 5, 2) := by decide +kernel
theorem dL_load_235 : decode cL_load 235 = .ok (.iload_n 1, 1) := by decide +kernel
theorem dL_load_236 : decode cL_load 236 = .ok (.iaload, 1) := by decide +kernel
theorem dL_load_237 : decode cL_load 237 = .ok (.if_icmp .ne 14, 3) := by decide +kernel
theorem dL_load_240 : decode cL_load 240 = .ok (.aload_n 0, 1) := by decide +kernel
theorem dL_load_241 : decode cL_load 241 = .ok (.invokevirtual 95, 3) := by decide +kernel
theorem dL_load_244 : decode cL_load 244 = .ok (.ifCond .ne 7, 3) := by decide +kernel
theorem dL_load_247 : decode cL_load 247 = .ok (.iconst 1, 1) := by decide +kernel
theorem dL_load_248 : decode cL_load 248 = .ok (.goto 4, 3) := by decide +kernel
theorem dL_load_251 : decode cL_load 251 = .ok (.iconst 0, 1) := by decide +kernel
theorem dL_load_252 : decode cL_load 252 = .ok (.ireturn, 1) := by decide +kernel
theorem pd_L_load : (parseMethodDescriptor yL_load.desc).map (fun d => d.parameters.length) = some 6 := by decide +kernel
def w_L_load (zz : Nat → Nat) (a0 : Nat) (a1 : Int) (a2 : Int) (a3 : Int) (a4 : Nat) (a5 : Nat) (h : AH) (Q : Int → AH → Prop) : Prop := okW h a5 a1 ∧ ∀ h7 : AH, h7 = saI h a5 (u1 (haI h a5) a1 (0 : Int)) → okA h7 a0 6 ∧ w_X6_clearBuffer zz a0 h7 (fun (r9 : Int) (h9 : AH) => w_L_at zz a2 (4 : Int) h9 (fun (r16 : Int) (h16 : AH) => inR ((1 : Int) + r16) ∧ ∀ x7_20 : Int, x7_20 = ((1 : Int) + r16) → ∃ I_25 : Nat → Int → Int → AH → Prop, (∃ n, I_25 n (0 : Int) (0 : Int) h16) ∧ ∀ (n_25 : Nat) (x6_25 : Int) (x8_25 : Int) (h_25 : AH), I_25 n_25 x6_25 x8_25 h_25 → (((x7_20 ≤ x8_25) → okA h_25 a0 6 ∧ w_X6_firstError zz a0 h_25 (fun (r220 : Int) (h220 : AH) => jn (fun (t0_252 : Int) (h_252 : AH) => (t0_252 = 0 ∨ t0_252 = 1) ∧ Q t0_252 h_252) (fun k_252 : Int → AH → Prop => jn (fun  (h_251 : AH) => k_252 (0 : Int) h_251) (fun k_251 : AH → Prop => ((¬ r220 = x6_25) → k_251  h220) ∧ ((r220 = x6_25) → okA h220 a0 6 ∧ w_X6_load zz a0 a1 h220 (fun (r230 : Int) (h230 : AH) => okI h230 a5 a1 ∧ ((¬ r230 = (haI h230 a5 a1)) → k_251  h230) ∧ ((r230 = (haI h230 a5 a1)) → okA h230 a0 6 ∧ w_X6_clearBuffer zz a0 h230 (fun (r241 : Int) (h241 : AH) => ((¬ r241 = 0) → k_251  h241) ∧ ((r241 = 0) → k_252 (1 : Int) h241)))) (fun _ _ => False)))))) ∧ ((¬ (x7_20 ≤ x8_25)) → jn (fun (x6_53 : Int) (h_53 : AH) => inR ((2 : Int) * x8_25) ∧ (0 ≤ ((2 : Int) * x8_25) ∧ ((2 : Int) * x8_25) < 32) ∧ w_L_at zz (a3 / (2 : Int) ^ (((2 : Int) * x8_25)).toNat) (9 : Int) h_53 (fun (r61 : Int) (h61 : AH) => ∃ I_69 : Nat → Int → Int → AH → Prop, (∃ n, I_69 n x6_53 (0 : Int) h61) ∧ ∀ (n_69 : Nat) (x6_69 : Int) (x10_69 : Int) (h_69 : AH), I_69 n_69 x6_69 x10_69 h_69 → (((r61 ≤ x10_69) → inR (x8_25 + 1) ∧ ∀ x8_213 : Int, x8_213 = (x8_25 + 1) → ∃ m, m < n_25 ∧ I_25 m x6_69 x8_213 h_69) ∧ ((¬ (r61 ≤ x10_69)) → okI h_69 a5 a1 ∧ jn (fun (t0_112 : Int) (h_112 : AH) => jn (fun (t0_143 : Int) (h_143 : AH) => okA h_143 a0 6 ∧ w_X6_append zz a0 t0_143 h_143 (fun (r148 : Int) (h148 : AH) => inR (x6_69 + 1) ∧ ∀ x6_151 : Int, x6_151 = (x6_69 + 1) → ((r148 = x6_151) → jn (fun  (h_207 : AH) => inR (x10_69 + 1) ∧ ∀ x10_207 : Int, x10_207 = (x10_69 + 1) → ∃ m, m < n_69 ∧ I_69 m x6_151 x10_207 h_207) (fun k_207 : AH → Prop => ((¬ t0_112 = 0) → okI h148 a5 a1 ∧ inR ((2 : Int) * (haI h148 a5 a1)) ∧ inR ((16 : Int) * x8_25) ∧ inR (((16 : Int) * x8_25) + x10_69) ∧ okW h148 a4 ((2 : Int) * (haI h148 a5 a1)) ∧ ∀ h185 : AH, h185 = saI h148 a4 (u1 (haI h148 a4) ((2 : Int) * (haI h148 a5 a1)) (((16 : Int) * x8_25) + x10_69)) → okI h185 a5 a1 ∧ inR ((2 : Int) * (haI h185 a5 a1)) ∧ inR (((2 : Int) * (haI h185 a5 a1)) + (1 : Int)) ∧ okW h185 a4 (((2 : Int) * (haI h185 a5 a1)) + (1 : Int)) ∧ ∀ h198 : AH, h198 = saI h185 a4 (u1 (haI h185 a4) (((2 : Int) * (haI h185 a5 a1)) + (1 : Int)) t0_143) → okI h198 a5 a1 ∧ inR ((haI h198 a5 a1) + (1 : Int)) ∧ okW h198 a5 a1 ∧ ∀ h206 : AH, h206 = saI h198 a5 (u1 (haI h198 a5) a1 ((haI h198 a5 a1) + (1 : Int))) → k_207  h206) ∧ ((t0_112 = 0) → k_207  h148))) ∧ ((¬ (r148 = x6_151)) → ((0 : Int) = 0 ∨ (0 : Int) = 1) ∧ Q (0 : Int) h148)) (fun _ _ => False)) (fun k_143 : Int → AH → Prop => ((t0_112 = 0) → k_143 (46 : Int) h_112) ∧ ((¬ (t0_112 = 0)) → (0 ≤ x10_69 ∧ x10_69 < 32) ∧ inR ((3 : Int) * x10_69) ∧ ∀ v129 : Int, inR v129 → ∀ v132 : Int, inR v132 → w_L_at zz v132 (4 : Int) h_112 (fun (r134 : Int) (h134 : AH) => inR ((97 : Int) + r134) ∧ k_143 ((97 : Int) + r134) h134)))) (fun k_112 : Int → AH → Prop => jn (fun  (h_111 : AH) => k_112 (0 : Int) h_111) (fun k_111 : AH → Prop => (((8 : Int) ≤ (haI h_69 a5 a1)) → k_111  h_69) ∧ ((¬ ((8 : Int) ≤ (haI h_69 a5 a1))) → inR (x10_69 + x8_25) ∧ (0 ≤ (x10_69 + x8_25) ∧ (x10_69 + x8_25) < 32) ∧ inR ((5 : Int) * x8_25) ∧ ∀ v96 : Int, inR v96 → ∀ v99 : Int, inR v99 → w_L_at zz v99 (3 : Int) h_69 (fun (r101 : Int) (h101 : AH) => ((r101 ≤ 0) → k_111  h101) ∧ ((¬ (r101 ≤ 0)) → k_112 (1 : Int) h101))))))))) (fun k_53 : Int → AH → Prop => ((x8_25 ≤ 0) → k_53 x6_25 h_25) ∧ ((¬ (x8_25 ≤ 0)) → okA h_25 a0 6 ∧ w_X6_append zz a0 (47 : Int) h_25 (fun (r40 : Int) (h40 : AH) => inR (x6_25 + 1) ∧ ∀ x6_43 : Int, x6_43 = (x6_25 + 1) → ((r40 = x6_43) → k_53 x6_43 h40) ∧ ((¬ (r40 = x6_43)) → ((0 : Int) = 0 ∨ (0 : Int) = 1) ∧ Q (0 : Int) h40)) (fun _ _ => False)))))))
set_option maxRecDepth 100000 in
set_option maxHeartbeats 4000000 in
theorem met_L_load (G : GG) (l : Launch) : ∀ (As : List Value) (a0 : Nat) (a1 : Int) (a2 : Int) (a3 : Int) (a4 : Nat) (a5 : Nat) (h : AH) (Q : Int → AH → Prop), As.map ab = List.map some ([vR a0, vI a1, vI a2, vI a3, vR a4, vR a5] : List AV) → w_L_load G.2.2 a0 a1 a2 a3 a4 a5 h Q → Met l yL_load (.code yL_load cL_load 13 (some .boolean) :: xTb) ({ frames := 5, cells := 0, slots := 0, locals := 125 } : Room) (PcA G As h) (QG G (oI Q)) 0 0 (frA G) := by
  intro As a0 a1 a2 a3 a4 a5 h Q hA hw
  refine met_of hA (by decide) (Nat.le_of_ble_eq_true rfl) (fun p e s m args below meth c C hml hr hnm => ?_)
  unfold w_L_load at hw
  refine aw_iconst (pc := 0) C dL_load_0 (i := (0 : Int)) (by decide) ?_
  refine aw_istore (pc := 1) C dL_load_1 (by rw [hml]; decide) ?_
  refine aw_aload (pc := 3) C dL_load_3 rfl ?_
  refine aw_iload_n (pc := 5) C dL_load_5 rfl rfl ?_
  refine aw_iconst (pc := 6) C dL_load_6 (i := (0 : Int)) (by decide) ?_
  obtain ⟨⟨k9, hp9⟩, hw⟩ := hw
  refine aw_iast (pc := 7) C dL_load_7 hp9 (aw_nmH (fun h7 e9 => ?_))
  have hw := hw h7 e9
  refine aw_aload_n (pc := 8) C dL_load_8 rfl rfl ?_
  obtain ⟨hp9, hw⟩ := hw
  refine aw_callV (pc := 9) (as := []) C ci6 (fun As hA => met_X6_clearBuffer G l As a0 _ _ hA hw) tw643 tw644 tw645 tw1 tw646 ⟨rfl, rfl⟩ ⟨rfl, by decide, by decide, pd_X6_clearBuffer⟩ ⟨Nat.le_of_ble_eq_true rfl, Nat.le_of_ble_eq_true rfl⟩ ⟨(Nat.le_of_ble_eq_true rfl), (Nat.le_of_ble_eq_true rfl)⟩ (Nat.le_of_ble_eq_true rfl) dL_load_9 rfl hp9 (fun v9 h9 hq9 => ?_)
  obtain ⟨r9, rfl, hw⟩ := hq9
  refine aw_pop (pc := 12) C dL_load_12 rfl ?_
  refine aw_iconst (pc := 13) C dL_load_13 (i := (1 : Int)) (by decide) ?_
  refine aw_iload_n (pc := 14) C dL_load_14 rfl rfl ?_
  refine aw_iconst (pc := 15) C dL_load_15 (i := (4 : Int)) (by decide) ?_
  refine aw_callS (pc := 16) (as := [vI a2, vI (4 : Int)]) C (fun As hA => met_L_at G l As a2 (4 : Int) _ _ hA hw) tw447 tw448 tw0 tw449 ⟨rfl, rfl⟩ ⟨by decide, by decide, pd_L_at⟩ ⟨Nat.le_of_ble_eq_true rfl, Nat.le_of_ble_eq_true rfl⟩ ⟨(Nat.le_of_ble_eq_true rfl), (Nat.le_of_ble_eq_true rfl)⟩ (Nat.le_of_ble_eq_true rfl) dL_load_16 rfl (fun v9 h16 hq9 => ?_)
  obtain ⟨r16, rfl, hw⟩ := hq9
  obtain ⟨hp9, hw⟩ := hw
  refine aw_iadd (pc := 19) C dL_load_19 hp9 ?_
  refine aw_nmI (fun x7_20 e9 => ?_)
  have hw := hw x7_20 e9
  refine aw_istore (pc := 20) C dL_load_20 (by rw [hml]; decide) ?_
  refine aw_iconst (pc := 22) C dL_load_22 (i := (0 : Int)) (by decide) ?_
  refine aw_istore (pc := 23) C dL_load_23 (by rw [hml]; decide) ?_
  obtain ⟨I_25, ⟨n9, hi9⟩, hst9⟩ := hw
  have L_25 : ∀ (n_25 : Nat) (x6_25 : Int) (x8_25 : Int) (h_25 : AH), I_25 n_25 x6_25 x8_25 h_25 → AW G p l e ({ frames := 5, cells := 0, slots := 0, locals := 125 } : Room) s m args below meth c 0 0 (MQ below (QG G (oI Q)) args s 0 0 (frA G)) 25 (eOf [(0, vR a0), (1, vI a1), (2, vI a2), (3, vI a3), (4, vR a4), (5, vR a5), (6, vI x6_25), (7, vI x7_20), (8, vI x8_25)]) [] h_25 := by
    intro n_25
    induction n_25 using Nat.strongRecOn with
    | _ n_25 ih_25 =>
    intro x6_25 x8_25 h_25 hi9
    have hw := hst9 n_25 x6_25 x8_25 h_25 hi9
    refine aw_iload (pc := 25) C dL_load_25 rfl ?_
    refine aw_iload (pc := 27) C dL_load_27 rfl ?_
    refine aw_icmp_ge (pc := 29) (tgt := 219) C dL_load_29 (by decide) (fun hc9 => ?_) (fun hc9 => ?_)
    · have hw := hw.1 hc9
      refine aw_aload_n (pc := 219) C dL_load_219 rfl rfl ?_
      obtain ⟨hp9, hw⟩ := hw
      refine aw_callV (pc := 220) (as := []) C ci6 (fun As hA => met_X6_firstError G l As a0 _ _ hA hw) tw668 tw669 tw670 tw1 tw671 ⟨rfl, rfl⟩ ⟨rfl, by decide, by decide, pd_X6_firstError⟩ ⟨Nat.le_of_ble_eq_true rfl, Nat.le_of_ble_eq_true rfl⟩ ⟨(Nat.le_of_ble_eq_true rfl), (Nat.le_of_ble_eq_true rfl)⟩ (Nat.le_of_ble_eq_true rfl) dL_load_220 rfl hp9 (fun v9 h220 hq9 => ?_)
      obtain ⟨r220, rfl, hw⟩ := hq9
      refine aw_iload (pc := 223) C dL_load_223 rfl ?_
      obtain ⟨k_252, hk_252, hw⟩ := jn_out hw
      have J_252 : ∀ (t0_252 : Int) (h_252 : AH), k_252 t0_252 h_252 → AW G p l e ({ frames := 5, cells := 0, slots := 0, locals := 125 } : Room) s m args below meth c 0 0 (MQ below (QG G (oI Q)) args s 0 0 (frA G)) 252 (eOf []) [vI t0_252] h_252 := by
        intro t0_252 h_252 hw
        rw [hk_252] at hw
        obtain ⟨hp9, hw⟩ := hw
        exact aw_zret (pc := 252) C hr dL_load_252 ⟨Nat.le_of_ble_eq_true rfl, Nat.le_of_ble_eq_true rfl⟩ hp9 ⟨_, rfl, hw⟩
      obtain ⟨k_251, hk_251, hw⟩ := jn_out hw
      have J_251 : ∀  (h_251 : AH), k_251  h_251 → AW G p l e ({ frames := 5, cells := 0, slots := 0, locals := 125 } : Room) s m args below meth c 0 0 (MQ below (QG G (oI Q)) args s 0 0 (frA G)) 251 (eOf []) [] h_251 := by
        intro  h_251 hw
        rw [hk_251] at hw
        refine aw_iconst (pc := 251) C dL_load_251 (i := (0 : Int)) (by decide) ?_
        refine aw_sub [] trivial ?_
        exact J_252 _ _ hw
      refine aw_icmp_ne (pc := 225) (tgt := 251) C dL_load_225 (by decide) (fun hc9 => ?_) (fun hc9 => ?_)
      · have hw := hw.1 hc9
        refine aw_sub [] trivial ?_
        exact J_251  _ hw
      · have hw := hw.2 hc9
        refine aw_aload_n (pc := 228) C dL_load_228 rfl rfl ?_
        refine aw_iload_n (pc := 229) C dL_load_229 rfl rfl ?_
        obtain ⟨hp9, hw⟩ := hw
        refine aw_callV (pc := 230) (as := [vI a1]) C ci6 (fun As hA => met_X6_load G l As a0 a1 _ _ hA hw) tw680 tw681 tw682 tw1 tw683 ⟨rfl, rfl⟩ ⟨rfl, by decide, by decide, pd_X6_load⟩ ⟨Nat.le_of_ble_eq_true rfl, Nat.le_of_ble_eq_true rfl⟩ ⟨(Nat.le_of_ble_eq_true rfl), (Nat.le_of_ble_eq_true rfl)⟩ (Nat.le_of_ble_eq_true rfl) dL_load_230 rfl hp9 (fun v9 h230 hq9 => ?_)
        obtain ⟨r230, rfl, hw⟩ := hq9
        refine aw_aload (pc := 233) C dL_load_233 rfl ?_
        refine aw_iload_n (pc := 235) C dL_load_235 rfl rfl ?_
        obtain ⟨⟨k9, hp9⟩, hw⟩ := hw
        refine aw_iald (pc := 236) C dL_load_236 hp9 ?_
        refine aw_icmp_ne (pc := 237) (tgt := 251) C dL_load_237 (by decide) (fun hc9 => ?_) (fun hc9 => ?_)
        · have hw := hw.1 hc9
          refine aw_sub [] trivial ?_
          exact J_251  _ hw
        · have hw := hw.2 hc9
          refine aw_aload_n (pc := 240) C dL_load_240 rfl rfl ?_
          obtain ⟨hp9, hw⟩ := hw
          refine aw_callV (pc := 241) (as := []) C ci6 (fun As hA => met_X6_clearBuffer G l As a0 _ _ hA hw) tw643 tw644 tw645 tw1 tw646 ⟨rfl, rfl⟩ ⟨rfl, by decide, by decide, pd_X6_clearBuffer⟩ ⟨Nat.le_of_ble_eq_true rfl, Nat.le_of_ble_eq_true rfl⟩ ⟨(Nat.le_of_ble_eq_true rfl), (Nat.le_of_ble_eq_true rfl)⟩ (Nat.le_of_ble_eq_true rfl) dL_load_241 rfl hp9 (fun v9 h241 hq9 => ?_)
          obtain ⟨r241, rfl, hw⟩ := hq9
          refine aw_if_ne (pc := 244) (tgt := 251) C dL_load_244 (by decide) (fun hc9 => ?_) (fun hc9 => ?_)
          · have hw := hw.1 hc9
            refine aw_sub [] trivial ?_
            exact J_251  _ hw
          · have hw := hw.2 hc9
            refine aw_iconst (pc := 247) C dL_load_247 (i := (1 : Int)) (by decide) ?_
            refine aw_goto (pc := 248) (tgt := 252) C dL_load_248 (by decide) ?_
            refine aw_sub [] trivial ?_
            exact J_252 _ _ hw
    · have hw := hw.2 hc9
      refine aw_iload (pc := 32) C dL_load_32 rfl ?_
      obtain ⟨k_53, hk_53, hw⟩ := jn_out hw
      have J_53 : ∀ (x6_53 : Int) (h_53 : AH), k_53 x6_53 h_53 → AW G p l e ({ frames := 5, cells := 0, slots := 0, locals := 125 } : Room) s m args below meth c 0 0 (MQ below (QG G (oI Q)) args s 0 0 (frA G)) 53 (eOf [(0, vR a0), (1, vI a1), (2, vI a2), (3, vI a3), (4, vR a4), (5, vR a5), (6, vI x6_53), (7, vI x7_20), (8, vI x8_25)]) [] h_53 := by
        intro x6_53 h_53 hw
        rw [hk_53] at hw
        refine aw_iload_n (pc := 53) C dL_load_53 rfl rfl ?_
        refine aw_iconst (pc := 54) C dL_load_54 (i := (2 : Int)) (by decide) ?_
        refine aw_iload (pc := 55) C dL_load_55 rfl ?_
        obtain ⟨hp9, hw⟩ := hw
        refine aw_imul (pc := 57) C dL_load_57 hp9 ?_
        obtain ⟨hp9, hw⟩ := hw
        refine aw_ishr (pc := 58) C dL_load_58 hp9 ?_
        refine aw_bipush (pc := 59) C dL_load_59 (i := (9 : Int)) (by decide) ?_
        refine aw_callS (pc := 61) (as := [vI (a3 / (2 : Int) ^ (((2 : Int) * x8_25)).toNat), vI (9 : Int)]) C (fun As hA => met_L_at G l As (a3 / (2 : Int) ^ (((2 : Int) * x8_25)).toNat) (9 : Int) _ _ hA hw) tw447 tw448 tw0 tw449 ⟨rfl, rfl⟩ ⟨by decide, by decide, pd_L_at⟩ ⟨Nat.le_of_ble_eq_true rfl, Nat.le_of_ble_eq_true rfl⟩ ⟨(Nat.le_of_ble_eq_true rfl), (Nat.le_of_ble_eq_true rfl)⟩ (Nat.le_of_ble_eq_true rfl) dL_load_61 rfl (fun v9 h61 hq9 => ?_)
        obtain ⟨r61, rfl, hw⟩ := hq9
        refine aw_istore (pc := 64) C dL_load_64 (by rw [hml]; decide) ?_
        refine aw_iconst (pc := 66) C dL_load_66 (i := (0 : Int)) (by decide) ?_
        refine aw_istore (pc := 67) C dL_load_67 (by rw [hml]; decide) ?_
        obtain ⟨I_69, ⟨n9, hi9⟩, hst9⟩ := hw
        have L_69 : ∀ (n_69 : Nat) (x6_69 : Int) (x10_69 : Int) (h_69 : AH), I_69 n_69 x6_69 x10_69 h_69 → AW G p l e ({ frames := 5, cells := 0, slots := 0, locals := 125 } : Room) s m args below meth c 0 0 (MQ below (QG G (oI Q)) args s 0 0 (frA G)) 69 (eOf [(0, vR a0), (1, vI a1), (2, vI a2), (3, vI a3), (4, vR a4), (5, vR a5), (6, vI x6_69), (7, vI x7_20), (8, vI x8_25), (9, vI r61), (10, vI x10_69)]) [] h_69 := by
          intro n_69
          induction n_69 using Nat.strongRecOn with
          | _ n_69 ih_69 =>
          intro x6_69 x10_69 h_69 hi9
          have hw := hst9 n_69 x6_69 x10_69 h_69 hi9
          refine aw_iload (pc := 69) C dL_load_69 rfl ?_
          refine aw_iload (pc := 71) C dL_load_71 rfl ?_
          refine aw_icmp_ge (pc := 73) (tgt := 213) C dL_load_73 (by decide) (fun hc9 => ?_) (fun hc9 => ?_)
          · have hw := hw.1 hc9
            obtain ⟨hp9, hw⟩ := hw
            refine aw_iincN (pc := 213) C dL_load_213 (k := 1) (by decide) rfl (by rw [hml]; decide) hp9 (fun x8_213 e9 => ?_)
            have hw := hw x8_213 e9
            refine aw_goto (pc := 216) (tgt := 25) C dL_load_216 (by decide) ?_
            obtain ⟨m9, hm9, hw⟩ := hw
            refine aw_sub [(0, vR a0), (1, vI a1), (2, vI a2), (3, vI a3), (4, vR a4), (5, vR a5), (6, vI x6_69), (7, vI x7_20), (8, vI x8_213)] ⟨rfl, rfl, rfl, rfl, rfl, rfl, rfl, rfl, rfl, trivial⟩ ?_
            exact ih_25 m9 hm9 _ _ _ hw
          · have hw := hw.2 hc9
            refine aw_aload (pc := 76) C dL_load_76 rfl ?_
            refine aw_iload_n (pc := 78) C dL_load_78 rfl rfl ?_
            obtain ⟨⟨k9, hp9⟩, hw⟩ := hw
            refine aw_iald (pc := 79) C dL_load_79 hp9 ?_
            refine aw_bipush (pc := 80) C dL_load_80 (i := (8 : Int)) (by decide) ?_
            obtain ⟨k_112, hk_112, hw⟩ := jn_out hw
            have J_112 : ∀ (t0_112 : Int) (h_112 : AH), k_112 t0_112 h_112 → AW G p l e ({ frames := 5, cells := 0, slots := 0, locals := 125 } : Room) s m args below meth c 0 0 (MQ below (QG G (oI Q)) args s 0 0 (frA G)) 112 (eOf [(0, vR a0), (1, vI a1), (2, vI a2), (3, vI a3), (4, vR a4), (5, vR a5), (6, vI x6_69), (7, vI x7_20), (8, vI x8_25), (9, vI r61), (10, vI x10_69)]) [vI t0_112] h_112 := by
              intro t0_112 h_112 hw
              rw [hk_112] at hw
              refine aw_istore (pc := 112) C dL_load_112 (by rw [hml]; decide) ?_
              refine aw_iload (pc := 114) C dL_load_114 rfl ?_
              obtain ⟨k_143, hk_143, hw⟩ := jn_out hw
              have J_143 : ∀ (t0_143 : Int) (h_143 : AH), k_143 t0_143 h_143 → AW G p l e ({ frames := 5, cells := 0, slots := 0, locals := 125 } : Room) s m args below meth c 0 0 (MQ below (QG G (oI Q)) args s 0 0 (frA G)) 143 (eOf [(0, vR a0), (1, vI a1), (2, vI a2), (3, vI a3), (4, vR a4), (5, vR a5), (6, vI x6_69), (7, vI x7_20), (8, vI x8_25), (9, vI r61), (10, vI x10_69), (11, vI t0_112)]) [vI t0_143] h_143 := by
                intro t0_143 h_143 hw
                rw [hk_143] at hw
                refine aw_istore (pc := 143) C dL_load_143 (by rw [hml]; decide) ?_
                refine aw_aload_n (pc := 145) C dL_load_145 rfl rfl ?_
                refine aw_iload (pc := 146) C dL_load_146 rfl ?_
                obtain ⟨hp9, hw⟩ := hw
                refine aw_callV (pc := 148) (as := [vI t0_143]) C ci6 (fun As hA => met_X6_append G l As a0 t0_143 _ _ hA hw) tw647 tw648 tw649 tw1 tw650 ⟨rfl, rfl⟩ ⟨rfl, by decide, by decide, pd_X6_append⟩ ⟨Nat.le_of_ble_eq_true rfl, Nat.le_of_ble_eq_true rfl⟩ ⟨(Nat.le_of_ble_eq_true rfl), (Nat.le_of_ble_eq_true rfl)⟩ (Nat.le_of_ble_eq_true rfl) dL_load_148 rfl hp9 (fun v9 h148 hq9 => ?_)
                obtain ⟨r148, rfl, hw⟩ := hq9
                obtain ⟨hp9, hw⟩ := hw
                refine aw_iincN (pc := 151) C dL_load_151 (k := 1) (by decide) rfl (by rw [hml]; decide) hp9 (fun x6_151 e9 => ?_)
                have hw := hw x6_151 e9
                refine aw_iload (pc := 154) C dL_load_154 rfl ?_
                refine aw_icmp_eq (pc := 156) (tgt := 161) C dL_load_156 (by decide) (fun hc9 => ?_) (fun hc9 => ?_)
                · have hw := hw.1 hc9
                  refine aw_iload (pc := 161) C dL_load_161 rfl ?_
                  obtain ⟨k_207, hk_207, hw⟩ := jn_out hw
                  have J_207 : ∀  (h_207 : AH), k_207  h_207 → AW G p l e ({ frames := 5, cells := 0, slots := 0, locals := 125 } : Room) s m args below meth c 0 0 (MQ below (QG G (oI Q)) args s 0 0 (frA G)) 207 (eOf [(0, vR a0), (1, vI a1), (2, vI a2), (3, vI a3), (4, vR a4), (5, vR a5), (6, vI x6_151), (7, vI x7_20), (8, vI x8_25), (9, vI r61), (10, vI x10_69)]) [] h_207 := by
                    intro  h_207 hw
                    rw [hk_207] at hw
                    obtain ⟨hp9, hw⟩ := hw
                    refine aw_iincN (pc := 207) C dL_load_207 (k := 1) (by decide) rfl (by rw [hml]; decide) hp9 (fun x10_207 e9 => ?_)
                    have hw := hw x10_207 e9
                    refine aw_goto (pc := 210) (tgt := 69) C dL_load_210 (by decide) ?_
                    obtain ⟨m9, hm9, hw⟩ := hw
                    refine aw_sub [(0, vR a0), (1, vI a1), (2, vI a2), (3, vI a3), (4, vR a4), (5, vR a5), (6, vI x6_151), (7, vI x7_20), (8, vI x8_25), (9, vI r61), (10, vI x10_207)] ⟨rfl, rfl, rfl, rfl, rfl, rfl, rfl, rfl, rfl, rfl, rfl, trivial⟩ ?_
                    exact ih_69 m9 hm9 _ _ _ hw
                  refine aw_if_ne (pc := 163) (tgt := 169) C dL_load_163 (by decide) (fun hc9 => ?_) (fun hc9 => ?_)
                  · have hw := hw.1 hc9
                    refine aw_aload (pc := 169) C dL_load_169 rfl ?_
                    refine aw_iconst (pc := 171) C dL_load_171 (i := (2 : Int)) (by decide) ?_
                    refine aw_aload (pc := 172) C dL_load_172 rfl ?_
                    refine aw_iload_n (pc := 174) C dL_load_174 rfl rfl ?_
                    obtain ⟨⟨k9, hp9⟩, hw⟩ := hw
                    refine aw_iald (pc := 175) C dL_load_175 hp9 ?_
                    obtain ⟨hp9, hw⟩ := hw
                    refine aw_imul (pc := 176) C dL_load_176 hp9 ?_
                    refine aw_bipush (pc := 177) C dL_load_177 (i := (16 : Int)) (by decide) ?_
                    refine aw_iload (pc := 179) C dL_load_179 rfl ?_
                    obtain ⟨hp9, hw⟩ := hw
                    refine aw_imul (pc := 181) C dL_load_181 hp9 ?_
                    refine aw_iload (pc := 182) C dL_load_182 rfl ?_
                    obtain ⟨hp9, hw⟩ := hw
                    refine aw_iadd (pc := 184) C dL_load_184 hp9 ?_
                    obtain ⟨⟨k9, hp9⟩, hw⟩ := hw
                    refine aw_iast (pc := 185) C dL_load_185 hp9 (aw_nmH (fun h185 e9 => ?_))
                    have hw := hw h185 e9
                    refine aw_aload (pc := 186) C dL_load_186 rfl ?_
                    refine aw_iconst (pc := 188) C dL_load_188 (i := (2 : Int)) (by decide) ?_
                    refine aw_aload (pc := 189) C dL_load_189 rfl ?_
                    refine aw_iload_n (pc := 191) C dL_load_191 rfl rfl ?_
                    obtain ⟨⟨k9, hp9⟩, hw⟩ := hw
                    refine aw_iald (pc := 192) C dL_load_192 hp9 ?_
                    obtain ⟨hp9, hw⟩ := hw
                    refine aw_imul (pc := 193) C dL_load_193 hp9 ?_
                    refine aw_iconst (pc := 194) C dL_load_194 (i := (1 : Int)) (by decide) ?_
                    obtain ⟨hp9, hw⟩ := hw
                    refine aw_iadd (pc := 195) C dL_load_195 hp9 ?_
                    refine aw_iload (pc := 196) C dL_load_196 rfl ?_
                    obtain ⟨⟨k9, hp9⟩, hw⟩ := hw
                    refine aw_iast (pc := 198) C dL_load_198 hp9 (aw_nmH (fun h198 e9 => ?_))
                    have hw := hw h198 e9
                    refine aw_aload (pc := 199) C dL_load_199 rfl ?_
                    refine aw_iload_n (pc := 201) C dL_load_201 rfl rfl ?_
                    refine aw_dup2 (pc := 202) C dL_load_202 rfl rfl ?_
                    obtain ⟨⟨k9, hp9⟩, hw⟩ := hw
                    refine aw_iald (pc := 203) C dL_load_203 hp9 ?_
                    refine aw_iconst (pc := 204) C dL_load_204 (i := (1 : Int)) (by decide) ?_
                    obtain ⟨hp9, hw⟩ := hw
                    refine aw_iadd (pc := 205) C dL_load_205 hp9 ?_
                    obtain ⟨⟨k9, hp9⟩, hw⟩ := hw
                    refine aw_iast (pc := 206) C dL_load_206 hp9 (aw_nmH (fun h206 e9 => ?_))
                    have hw := hw h206 e9
                    refine aw_sub [(0, vR a0), (1, vI a1), (2, vI a2), (3, vI a3), (4, vR a4), (5, vR a5), (6, vI x6_151), (7, vI x7_20), (8, vI x8_25), (9, vI r61), (10, vI x10_69)] ⟨rfl, rfl, rfl, rfl, rfl, rfl, rfl, rfl, rfl, rfl, rfl, trivial⟩ ?_
                    exact J_207  _ hw
                  · have hw := hw.2 hc9
                    refine aw_goto (pc := 166) (tgt := 207) C dL_load_166 (by decide) ?_
                    refine aw_sub [(0, vR a0), (1, vI a1), (2, vI a2), (3, vI a3), (4, vR a4), (5, vR a5), (6, vI x6_151), (7, vI x7_20), (8, vI x8_25), (9, vI r61), (10, vI x10_69)] ⟨rfl, rfl, rfl, rfl, rfl, rfl, rfl, rfl, rfl, rfl, rfl, trivial⟩ ?_
                    exact J_207  _ hw
                · have hw := hw.2 hc9
                  refine aw_iconst (pc := 159) C dL_load_159 (i := (0 : Int)) (by decide) ?_
                  obtain ⟨hp9, hw⟩ := hw
                  exact aw_zret (pc := 160) C hr dL_load_160 ⟨Nat.le_of_ble_eq_true rfl, Nat.le_of_ble_eq_true rfl⟩ hp9 ⟨_, rfl, hw⟩
              refine aw_if_eq (pc := 116) (tgt := 141) C dL_load_116 (by decide) (fun hc9 => ?_) (fun hc9 => ?_)
              · have hw := hw.1 hc9
                refine aw_bipush (pc := 141) C dL_load_141 (i := (46 : Int)) (by decide) ?_
                refine aw_sub [(0, vR a0), (1, vI a1), (2, vI a2), (3, vI a3), (4, vR a4), (5, vR a5), (6, vI x6_69), (7, vI x7_20), (8, vI x8_25), (9, vI r61), (10, vI x10_69), (11, vI t0_112)] ⟨rfl, rfl, rfl, rfl, rfl, rfl, rfl, rfl, rfl, rfl, rfl, rfl, trivial⟩ ?_
                exact J_143 _ _ hw
              · have hw := hw.2 hc9
                refine aw_bipush (pc := 119) C dL_load_119 (i := (97 : Int)) (by decide) ?_
                refine aw_iload_n (pc := 121) C dL_load_121 rfl rfl ?_
                refine aw_iload (pc := 122) C dL_load_122 rfl ?_
                obtain ⟨hp9, hw⟩ := hw
                refine aw_ishr (pc := 124) C dL_load_124 hp9 ?_
                refine aw_iconst (pc := 125) C dL_load_125 (i := (3 : Int)) (by decide) ?_
                refine aw_iload (pc := 126) C dL_load_126 rfl ?_
                obtain ⟨hp9, hw⟩ := hw
                refine aw_imul (pc := 128) C dL_load_128 hp9 ?_
                refine aw_iaddW (pc := 129) C dL_load_129 (fun v129 hp9 => ?_)
                have hw := hw v129 hp9
                refine aw_iload (pc := 130) C dL_load_130 rfl ?_
                refine aw_iaddW (pc := 132) C dL_load_132 (fun v132 hp9 => ?_)
                have hw := hw v132 hp9
                refine aw_iconst (pc := 133) C dL_load_133 (i := (4 : Int)) (by decide) ?_
                refine aw_callS (pc := 134) (as := [vI v132, vI (4 : Int)]) C (fun As hA => met_L_at G l As v132 (4 : Int) _ _ hA hw) tw447 tw448 tw0 tw449 ⟨rfl, rfl⟩ ⟨by decide, by decide, pd_L_at⟩ ⟨Nat.le_of_ble_eq_true rfl, Nat.le_of_ble_eq_true rfl⟩ ⟨(Nat.le_of_ble_eq_true rfl), (Nat.le_of_ble_eq_true rfl)⟩ (Nat.le_of_ble_eq_true rfl) dL_load_134 rfl (fun v9 h134 hq9 => ?_)
                obtain ⟨r134, rfl, hw⟩ := hq9
                obtain ⟨hp9, hw⟩ := hw
                refine aw_iadd (pc := 137) C dL_load_137 hp9 ?_
                refine aw_goto (pc := 138) (tgt := 143) C dL_load_138 (by decide) ?_
                refine aw_sub [(0, vR a0), (1, vI a1), (2, vI a2), (3, vI a3), (4, vR a4), (5, vR a5), (6, vI x6_69), (7, vI x7_20), (8, vI x8_25), (9, vI r61), (10, vI x10_69), (11, vI t0_112)] ⟨rfl, rfl, rfl, rfl, rfl, rfl, rfl, rfl, rfl, rfl, rfl, rfl, trivial⟩ ?_
                exact J_143 _ _ hw
            obtain ⟨k_111, hk_111, hw⟩ := jn_out hw
            have J_111 : ∀  (h_111 : AH), k_111  h_111 → AW G p l e ({ frames := 5, cells := 0, slots := 0, locals := 125 } : Room) s m args below meth c 0 0 (MQ below (QG G (oI Q)) args s 0 0 (frA G)) 111 (eOf [(0, vR a0), (1, vI a1), (2, vI a2), (3, vI a3), (4, vR a4), (5, vR a5), (6, vI x6_69), (7, vI x7_20), (8, vI x8_25), (9, vI r61), (10, vI x10_69)]) [] h_111 := by
              intro  h_111 hw
              rw [hk_111] at hw
              refine aw_iconst (pc := 111) C dL_load_111 (i := (0 : Int)) (by decide) ?_
              refine aw_sub [(0, vR a0), (1, vI a1), (2, vI a2), (3, vI a3), (4, vR a4), (5, vR a5), (6, vI x6_69), (7, vI x7_20), (8, vI x8_25), (9, vI r61), (10, vI x10_69)] ⟨rfl, rfl, rfl, rfl, rfl, rfl, rfl, rfl, rfl, rfl, rfl, trivial⟩ ?_
              exact J_112 _ _ hw
            refine aw_icmp_ge (pc := 82) (tgt := 111) C dL_load_82 (by decide) (fun hc9 => ?_) (fun hc9 => ?_)
            · have hw := hw.1 hc9
              refine aw_sub [(0, vR a0), (1, vI a1), (2, vI a2), (3, vI a3), (4, vR a4), (5, vR a5), (6, vI x6_69), (7, vI x7_20), (8, vI x8_25), (9, vI r61), (10, vI x10_69)] ⟨rfl, rfl, rfl, rfl, rfl, rfl, rfl, rfl, rfl, rfl, rfl, trivial⟩ ?_
              exact J_111  _ hw
            · have hw := hw.2 hc9
              refine aw_iload_n (pc := 85) C dL_load_85 rfl rfl ?_
              refine aw_iload (pc := 86) C dL_load_86 rfl ?_
              refine aw_iload (pc := 88) C dL_load_88 rfl ?_
              obtain ⟨hp9, hw⟩ := hw
              refine aw_iadd (pc := 90) C dL_load_90 hp9 ?_
              obtain ⟨hp9, hw⟩ := hw
              refine aw_ishr (pc := 91) C dL_load_91 hp9 ?_
              refine aw_iconst (pc := 92) C dL_load_92 (i := (5 : Int)) (by decide) ?_
              refine aw_iload (pc := 93) C dL_load_93 rfl ?_
              obtain ⟨hp9, hw⟩ := hw
              refine aw_imul (pc := 95) C dL_load_95 hp9 ?_
              refine aw_iaddW (pc := 96) C dL_load_96 (fun v96 hp9 => ?_)
              have hw := hw v96 hp9
              refine aw_iload (pc := 97) C dL_load_97 rfl ?_
              refine aw_iaddW (pc := 99) C dL_load_99 (fun v99 hp9 => ?_)
              have hw := hw v99 hp9
              refine aw_iconst (pc := 100) C dL_load_100 (i := (3 : Int)) (by decide) ?_
              refine aw_callS (pc := 101) (as := [vI v99, vI (3 : Int)]) C (fun As hA => met_L_at G l As v99 (3 : Int) _ _ hA hw) tw447 tw448 tw0 tw449 ⟨rfl, rfl⟩ ⟨by decide, by decide, pd_L_at⟩ ⟨Nat.le_of_ble_eq_true rfl, Nat.le_of_ble_eq_true rfl⟩ ⟨(Nat.le_of_ble_eq_true rfl), (Nat.le_of_ble_eq_true rfl)⟩ (Nat.le_of_ble_eq_true rfl) dL_load_101 rfl (fun v9 h101 hq9 => ?_)
              obtain ⟨r101, rfl, hw⟩ := hq9
              refine aw_if_le (pc := 104) (tgt := 111) C dL_load_104 (by decide) (fun hc9 => ?_) (fun hc9 => ?_)
              · have hw := hw.1 hc9
                refine aw_sub [(0, vR a0), (1, vI a1), (2, vI a2), (3, vI a3), (4, vR a4), (5, vR a5), (6, vI x6_69), (7, vI x7_20), (8, vI x8_25), (9, vI r61), (10, vI x10_69)] ⟨rfl, rfl, rfl, rfl, rfl, rfl, rfl, rfl, rfl, rfl, rfl, trivial⟩ ?_
                exact J_111  _ hw
              · have hw := hw.2 hc9
                refine aw_iconst (pc := 107) C dL_load_107 (i := (1 : Int)) (by decide) ?_
                refine aw_goto (pc := 108) (tgt := 112) C dL_load_108 (by decide) ?_
                refine aw_sub [(0, vR a0), (1, vI a1), (2, vI a2), (3, vI a3), (4, vR a4), (5, vR a5), (6, vI x6_69), (7, vI x7_20), (8, vI x8_25), (9, vI r61), (10, vI x10_69)] ⟨rfl, rfl, rfl, rfl, rfl, rfl, rfl, rfl, rfl, rfl, rfl, trivial⟩ ?_
                exact J_112 _ _ hw
        refine aw_sub [(0, vR a0), (1, vI a1), (2, vI a2), (3, vI a3), (4, vR a4), (5, vR a5), (6, vI x6_53), (7, vI x7_20), (8, vI x8_25), (9, vI r61), (10, vI (0 : Int))] ⟨rfl, rfl, rfl, rfl, rfl, rfl, rfl, rfl, rfl, rfl, rfl, trivial⟩ ?_
        exact L_69 n9 _ _ _ hi9
      refine aw_if_le (pc := 34) (tgt := 53) C dL_load_34 (by decide) (fun hc9 => ?_) (fun hc9 => ?_)
      · have hw := hw.1 hc9
        refine aw_sub [(0, vR a0), (1, vI a1), (2, vI a2), (3, vI a3), (4, vR a4), (5, vR a5), (6, vI x6_25), (7, vI x7_20), (8, vI x8_25)] ⟨rfl, rfl, rfl, rfl, rfl, rfl, rfl, rfl, rfl, trivial⟩ ?_
        exact J_53 _ _ hw
      · have hw := hw.2 hc9
        refine aw_aload_n (pc := 37) C dL_load_37 rfl rfl ?_
        refine aw_bipush (pc := 38) C dL_load_38 (i := (47 : Int)) (by decide) ?_
        obtain ⟨hp9, hw⟩ := hw
        refine aw_callV (pc := 40) (as := [vI (47 : Int)]) C ci6 (fun As hA => met_X6_append G l As a0 (47 : Int) _ _ hA hw) tw647 tw648 tw649 tw1 tw650 ⟨rfl, rfl⟩ ⟨rfl, by decide, by decide, pd_X6_append⟩ ⟨Nat.le_of_ble_eq_true rfl, Nat.le_of_ble_eq_true rfl⟩ ⟨(Nat.le_of_ble_eq_true rfl), (Nat.le_of_ble_eq_true rfl)⟩ (Nat.le_of_ble_eq_true rfl) dL_load_40 rfl hp9 (fun v9 h40 hq9 => ?_)
        obtain ⟨r40, rfl, hw⟩ := hq9
        obtain ⟨hp9, hw⟩ := hw
        refine aw_iincN (pc := 43) C dL_load_43 (k := 1) (by decide) rfl (by rw [hml]; decide) hp9 (fun x6_43 e9 => ?_)
        have hw := hw x6_43 e9
        refine aw_iload (pc := 46) C dL_load_46 rfl ?_
        refine aw_icmp_eq (pc := 48) (tgt := 53) C dL_load_48 (by decide) (fun hc9 => ?_) (fun hc9 => ?_)
        · have hw := hw.1 hc9
          refine aw_sub [(0, vR a0), (1, vI a1), (2, vI a2), (3, vI a3), (4, vR a4), (5, vR a5), (6, vI x6_43), (7, vI x7_20), (8, vI x8_25)] ⟨rfl, rfl, rfl, rfl, rfl, rfl, rfl, rfl, rfl, trivial⟩ ?_
          exact J_53 _ _ hw
        · have hw := hw.2 hc9
          refine aw_iconst (pc := 51) C dL_load_51 (i := (0 : Int)) (by decide) ?_
          obtain ⟨hp9, hw⟩ := hw
          exact aw_zret (pc := 52) C hr dL_load_52 ⟨Nat.le_of_ble_eq_true rfl, Nat.le_of_ble_eq_true rfl⟩ hp9 ⟨_, rfl, hw⟩
  refine aw_sub [(0, vR a0), (1, vI a1), (2, vI a2), (3, vI a3), (4, vR a4), (5, vR a5), (6, vI (0 : Int)), (7, vI x7_20), (8, vI (0 : Int))] ⟨rfl, rfl, rfl, rfl, rfl, rfl, rfl, rfl, rfl, trivial⟩ ?_
  exact L_25 n9 _ _ _ hi9
theorem dL_act_0 : decode cL_act 0 = .ok (.iload_n 1, 1) := by decide +kernel
theorem dL_act_1 : decode cL_act 1 = .ok (.iconst 4, 1) := by decide +kernel
theorem dL_act_2 : decode cL_act 2 = .ok (.if_icmp .ge 28, 3) := by decide +kernel
theorem dL_act_5 : decode cL_act 5 = .ok (.aload_n 0, 1) := by decide +kernel
theorem dL_act_6 : decode cL_act 6 = .ok (.iload_n 1, 1) := by decide +kernel
theorem dL_act_7 : decode cL_act 7 = .ok (.iconst 2, 1) := by decide +kernel
theorem dL_act_8 : decode cL_act 8 = .ok (.irem, 1) := by decide +kernel
theorem dL_act_9 : decode cL_act 9 = .ok (.iload_n 2, 1) := by decide +kernel
theorem dL_act_10 : decode cL_act 10 = .ok (.iload_n 3, 1) := by decide +kernel
theorem dL_act_11 : decode cL_act 11 = .ok (.iload_n 1, 1) := by decide +kernel
theorem dL_act_12 : decode cL_act 12 = .ok (.iconst 2, 1) := by decide +kernel
theorem dL_act_13 : decode cL_act 13 = .ok (.irem, 1) := by decide +kernel
theorem dL_act_14 : decode cL_act 14 = .ok (.ifCond .ne 8, 3) := by decide +kernel
theorem dL_act_17 : decode cL_act 17 = .ok (.aload 4, 2) := by decide +kernel
theorem dL_act_19 : decode cL_act 19 = .ok (.goto 5, 3) := by decide +kernel
theorem dL_act_22 : decode cL_act 22 = .ok (.aload 5, 2) := by decide +kernel
theorem dL_act_24 : decode cL_act 24 = .ok (.aload 6, 2) := by decide +kernel
theorem dL_act_26 : decode cL_act 26 = .ok (.invokestatic 110, 3) := by decide +kernel
theorem dL_act_29 : decode cL_act 29 = .ok (.ireturn, 1) := by decide +kernel
theorem dL_act_30 : decode cL_act 30 = .ok (.iload_n 1, 1) := by decide +kernel
theorem dL_act_31 : decode cL_act 31 = .ok (.bipush 9, 2) := by decide +kernel
theorem dL_act_33 : decode cL_act 33 = .ok (.if_icmp .ge 116, 3) := by decide +kernel
theorem dL_act_36 : decode cL_act 36 = .ok (.iload_n 2, 1) := by decide +kernel
theorem dL_act_37 : decode cL_act 37 = .ok (.iconst 2, 1) := by decide +kernel
theorem dL_act_38 : decode cL_act 38 = .ok (.invokestatic 99, 3) := by decide +kernel
theorem dL_act_41 : decode cL_act 41 = .ok (.istore 8, 2) := by decide +kernel
theorem dL_act_43 : decode cL_act 43 = .ok (.bipush 16, 2) := by decide +kernel
theorem dL_act_45 : decode cL_act 45 = .ok (.iload_n 2, 1) := by decide +kernel
theorem dL_act_46 : decode cL_act 46 = .ok (.iconst 2, 1) := by decide +kernel
theorem dL_act_47 : decode cL_act 47 = .ok (.ishr, 1) := by decide +kernel
theorem dL_act_48 : decode cL_act 48 = .ok (.iconst 5, 1) := by decide +kernel
theorem dL_act_49 : decode cL_act 49 = .ok (.invokestatic 99, 3) := by decide +kernel
theorem dL_act_52 : decode cL_act 52 = .ok (.imul, 1) := by decide +kernel
theorem dL_act_53 : decode cL_act 53 = .ok (.iload_n 3, 1) := by decide +kernel
theorem dL_act_54 : decode cL_act 54 = .ok (.bipush 10, 2) := by decide +kernel
theorem dL_act_56 : decode cL_act 56 = .ok (.invokestatic 99, 3) := by decide +kernel
theorem dL_act_59 : decode cL_act 59 = .ok (.iadd, 1) := by decide +kernel
theorem dL_act_60 : decode cL_act 60 = .ok (.istore 9, 2) := by decide +kernel
theorem dL_act_62 : decode cL_act 62 = .ok (.iload_n 2, 1) := by decide +kernel
theorem dL_act_63 : decode cL_act 63 = .ok (.iconst 5, 1) := by decide +kernel
theorem dL_act_64 : decode cL_act 64 = .ok (.ishr, 1) := by decide +kernel
theorem dL_act_65 : decode cL_act 65 = .ok (.iconst 4, 1) := by decide +kernel
theorem dL_act_66 : decode cL_act 66 = .ok (.invokestatic 99, 3) := by decide +kernel
theorem dL_act_69 : decode cL_act 69 = .ok (.ifCond .eq 13, 3) := by decide +kernel
theorem dL_act_72 : decode cL_act 72 = .ok (.aload 6, 2) := by decide +kernel
theorem dL_act_74 : decode cL_act 74 = .ok (.iload 8, 2) := by decide +kernel
theorem dL_act_76 : decode cL_act 76 = .ok (.iaload, 1) := by decide +kernel
theorem dL_act_77 : decode cL_act 77 = .ok (.bipush 8, 2) := by decide +kernel
theorem dL_act_79 : decode cL_act 79 = .ok (.if_icmp .ne 8, 3) := by decide +kernel
theorem dL_act_82 : decode cL_act 82 = .ok (.bipush 32, 2) := by decide +kernel
theorem dL_act_84 : decode cL_act 84 = .ok (.goto 13, 3) := by decide +kernel
theorem dL_act_87 : decode cL_act 87 = .ok (.bipush 97, 2) := by decide +kernel
theorem dL_act_89 : decode cL_act 89 = .ok (.iload_n 3, 1) := by decide +kernel
theorem dL_act_90 : decode cL_act 90 = .ok (.iconst 5, 1) := by decide +kernel
theorem dL_act_91 : decode cL_act 91 = .ok (.ishr, 1) := by decide +kernel
theorem dL_act_92 : decode cL_act 92 = .ok (.iconst 5, 1) := by decide +kernel
theorem dL_act_93 : decode cL_act 93 = .ok (.invokestatic 99, 3) := by decide +kernel
theorem dL_act_96 : decode cL_act 96 = .ok (.iadd, 1) := by decide +kernel
theorem dL_act_97 : decode cL_act 97 = .ok (.istore 10, 2) := by decide +kernel
theorem dL_act_99 : decode cL_act 99 = .ok (.aload_n 0, 1) := by decide +kernel
theorem dL_act_100 : decode cL_act 100 = .ok (.iload 8, 2) := by decide +kernel
theorem dL_act_102 : decode cL_act 102 = .ok (.iload 9, 2) := by decide +kernel
theorem dL_act_104 : decode cL_act 104 = .ok (.bipush 16, 2) := by decide +kernel
theorem dL_act_106 : decode cL_act 106 = .ok (.idiv, 1) := by decide +kernel
theorem dL_act_107 : decode cL_act 107 = .ok (.iload 9, 2) := by decide +kernel
theorem dL_act_109 : decode cL_act 109 = .ok (.bipush 16, 2) := by decide +kernel
theorem dL_act_111 : decode cL_act 111 = .ok (.irem, 1) := by decide +kernel
theorem dL_act_112 : decode cL_act 112 = .ok (.iload 10, 2) := by decide +kernel
theorem dL_act_114 : decode cL_act 114 = .ok (.invokevirtual 113, 3) := by decide +kernel
theorem dL_act_117 : decode cL_act 117 = .ok (.iload 9, 2) := by decide +kernel
theorem dL_act_119 : decode cL_act 119 = .ok (.iload 10, 2) := by decide +kernel
theorem dL_act_121 : decode cL_act 121 = .ok (.iload 8, 2) := by decide +kernel
theorem dL_act_123 : decode cL_act 123 = .ok (.iload 8, 2) := by decide +kernel
theorem dL_act_125 : decode cL_act 125 = .ok (.ifCond .ne 8, 3) := by decide +kernel
theorem dL_act_128 : decode cL_act 128 = .ok (.aload 4, 2) := by decide +kernel
theorem dL_act_130 : decode cL_act 130 = .ok (.goto 5, 3) := by decide +kernel
theorem dL_act_133 : decode cL_act 133 = .ok (.aload 5, 2) := by decide +kernel
theorem dL_act_135 : decode cL_act 135 = .ok (.aload 6, 2) := by decide +kernel
theorem dL_act_137 : decode cL_act 137 = .ok (.invokestatic 117, 3) := by decide +kernel
theorem dL_act_140 : decode cL_act 140 = .ok (.if_icmp .ne 7, 3) := by decide +kernel
theorem dL_act_143 : decode cL_act 143 = .ok (.iconst 1, 1) := by decide +kernel
theorem dL_act_144 : decode cL_act 144 = .ok (.goto 4, 3) := by decide +kernel
theorem dL_act_147 : decode cL_act 147 = .ok (.iconst 0, 1) := by decide +kernel
theorem dL_act_148 : decode cL_act 148 = .ok (.ireturn, 1) := by decide +kernel
theorem dL_act_149 : decode cL_act 149 = .ok (.iload_n 1, 1) := by decide +kernel
theorem dL_act_150 : decode cL_act 150 = .ok (.bipush 9, 2) := by decide +kernel
theorem dL_act_152 : decode cL_act 152 = .ok (.if_icmp .ne 81, 3) := by decide +kernel
theorem dL_act_155 : decode cL_act 155 = .ok (.aload 6, 2) := by decide +kernel
theorem dL_act_157 : decode cL_act 157 = .ok (.iconst 0, 1) := by decide +kernel
theorem dL_act_158 : decode cL_act 158 = .ok (.iaload, 1) := by decide +kernel
theorem dL_act_159 : decode cL_act 159 = .ok (.istore 8, 2) := by decide +kernel
theorem dL_act_161 : decode cL_act 161 = .ok (.aload 6, 2) := by decide +kernel
theorem dL_act_163 : decode cL_act 163 = .ok (.iconst 0, 1) := by decide +kernel
theorem dL_act_164 : decode cL_act 164 = .ok (.aload 6, 2) := by decide +kernel
theorem dL_act_166 : decode cL_act 166 = .ok (.iconst 1, 1) := by decide +kernel
theorem dL_act_167 : decode cL_act 167 = .ok (.iaload, 1) := by decide +kernel
theorem dL_act_168 : decode cL_act 168 = .ok (.iastore, 1) := by decide +kernel
theorem dL_act_169 : decode cL_act 169 = .ok (.aload 6, 2) := by decide +kernel
theorem dL_act_171 : decode cL_act 171 = .ok (.iconst 1, 1) := by decide +kernel
theorem dL_act_172 : decode cL_act 172 = .ok (.iload 8, 2) := by decide +kernel
theorem dL_act_174 : decode cL_act 174 = .ok (.iastore, 1) := by decide +kernel
theorem dL_act_175 : decode cL_act 175 = .ok (.iconst 0, 1) := by decide +kernel
theorem dL_act_176 : decode cL_act 176 = .ok (.istore 9, 2) := by decide +kernel
theorem dL_act_178 : decode cL_act 178 = .ok (.iload 9, 2) := by decide +kernel
theorem dL_act_180 : decode cL_act 180 = .ok (.bipush 16, 2) := by decide +kernel
theorem dL_act_182 : decode cL_act 182 = .ok (.if_icmp .ge 33, 3) := by decide +kernel
theorem dL_act_185 : decode cL_act 185 = .ok (.aload 4, 2) := by decide +kernel
theorem dL_act_187 : decode cL_act 187 = .ok (.iload 9, 2) := by decide +kernel
theorem dL_act_189 : decode cL_act 189 = .ok (.iaload, 1) := by decide +kernel
theorem dL_act_190 : decode cL_act 190 = .ok (.istore 10, 2) := by decide +kernel
theorem dL_act_192 : decode cL_act 192 = .ok (.aload 4, 2) := by decide +kernel
theorem dL_act_194 : decode cL_act 194 = .ok (.iload 9, 2) := by decide +kernel
theorem dL_act_196 : decode cL_act 196 = .ok (.aload 5, 2) := by decide +kernel
theorem dL_act_198 : decode cL_act 198 = .ok (.iload 9, 2) := by decide +kernel
theorem dL_act_200 : decode cL_act 200 = .ok (.iaload, 1) := by decide +kernel
theorem dL_act_201 : decode cL_act 201 = .ok (.iastore, 1) := by decide +kernel
theorem dL_act_202 : decode cL_act 202 = .ok (.aload 5, 2) := by decide +kernel
theorem dL_act_204 : decode cL_act 204 = .ok (.iload 9, 2) := by decide +kernel
theorem dL_act_206 : decode cL_act 206 = .ok (.iload 10, 2) := by decide +kernel
theorem dL_act_208 : decode cL_act 208 = .ok (.iastore, 1) := by decide +kernel
theorem dL_act_209 : decode cL_act 209 = .ok (.iinc 9 1, 3) := by decide +kernel
theorem dL_act_212 : decode cL_act 212 = .ok (.goto (-34), 3) := by decide +kernel
theorem dL_act_215 : decode cL_act 215 = .ok (.aload_n 0, 1) := by decide +kernel
theorem dL_act_216 : decode cL_act 216 = .ok (.invokevirtual 121, 3) := by decide +kernel
theorem dL_act_219 : decode cL_act 219 = .ok (.aload_n 0, 1) := by decide +kernel
theorem dL_act_220 : decode cL_act 220 = .ok (.iconst 0, 1) := by decide +kernel
theorem dL_act_221 : decode cL_act 221 = .ok (.invokevirtual 92, 3) := by decide +kernel
theorem dL_act_224 : decode cL_act 224 = .ok (.if_icmp .ne 7, 3) := by decide +kernel
theorem dL_act_227 : decode cL_act 227 = .ok (.iconst 1, 1) := by decide +kernel
theorem dL_act_228 : decode cL_act 228 = .ok (.goto 4, 3) := by decide +kernel
theorem dL_act_231 : decode cL_act 231 = .ok (.iconst 0, 1) := by decide +kernel
theorem dL_act_232 : decode cL_act 232 = .ok (.ireturn, 1) := by decide +kernel
theorem dL_act_233 : decode cL_act 233 = .ok (.iload_n 2, 1) := by decide +kernel
theorem dL_act_234 : decode cL_act 234 = .ok (.bipush 8, 2) := by decide +kernel
theorem dL_act_236 : decode cL_act 236 = .ok (.invokestatic 99, 3) := by decide +kernel
theorem dL_act_239 : decode cL_act 239 = .ok (.istore 8, 2) := by decide +kernel
theorem dL_act_241 : decode cL_act 241 = .ok (.aload 7, 2) := by decide +kernel
theorem dL_act_243 : decode cL_act 243 = .ok (.iload 8, 2) := by decide +kernel
theorem dL_act_245 : decode cL_act 245 = .ok (.iaload, 1) := by decide +kernel
theorem dL_act_246 : decode cL_act 246 = .ok (.istore 9, 2) := by decide +kernel
theorem dL_act_248 : decode cL_act 248 = .ok (.aload 7, 2) := by decide +kernel
theorem dL_act_250 : decode cL_act 250 = .ok (.iload 8, 2) := by decide +kernel
theorem dL_act_252 : decode cL_act 252 = .ok (.iload 8, 2) := by decide +kernel
theorem dL_act_254 : decode cL_act 254 = .ok (.ifCond .ne 14, 3) := by decide +kernel
theorem dL_act_257 : decode cL_act 257 = .ok (.iconst 1, 1) := by decide +kernel
theorem dL_act_258 : decode cL_act 258 = .ok (.iload_n 3, 1) := by decide +kernel
theorem dL_act_259 : decode cL_act 259 = .ok (.bipush 9, 2) := by decide +kernel
theorem dL_act_261 : decode cL_act 261 = .ok (.invokestatic 99, 3) := by decide +kernel
theorem dL_act_264 : decode cL_act 264 = .ok (.iadd, 1) := by decide +kernel
theorem dL_act_265 : decode cL_act 265 = .ok (.goto 81, 3) := by decide +kernel
theorem dL_act_268 : decode cL_act 268 = .ok (.iload 8, 2) := by decide +kernel
theorem dL_act_270 : decode cL_act 270 = .ok (.iconst 1, 1) := by decide +kernel
theorem dL_act_271 : decode cL_act 271 = .ok (.if_icmp .ne 12, 3) := by decide +kernel
theorem dL_act_274 : decode cL_act 274 = .ok (.iload_n 3, 1) := by decide +kernel
theorem dL_act_275 : decode cL_act 275 = .ok (.bipush 60, 2) := by decide +kernel
theorem dL_act_277 : decode cL_act 277 = .ok (.invokestatic 99, 3) := by decide +kernel
theorem dL_act_280 : decode cL_act 280 = .ok (.goto 66, 3) := by decide +kernel
theorem dL_act_283 : decode cL_act 283 = .ok (.iload 8, 2) := by decide +kernel
theorem dL_act_285 : decode cL_act 285 = .ok (.iconst 2, 1) := by decide +kernel
theorem dL_act_286 : decode cL_act 286 = .ok (.if_icmp .ne 12, 3) := by decide +kernel
theorem dL_act_289 : decode cL_act 289 = .ok (.iload_n 3, 1) := by decide +kernel
theorem dL_act_290 : decode cL_act 290 = .ok (.bipush 30, 2) := by decide +kernel
theorem dL_act_292 : decode cL_act 292 = .ok (.invokestatic 99, 3) := by decide +kernel
theorem dL_act_295 : decode cL_act 295 = .ok (.goto 51, 3) := by decide +kernel
theorem dL_act_298 : decode cL_act 298 = .ok (.iload 8, 2) := by decide +kernel
theorem dL_act_300 : decode cL_act 300 = .ok (.iconst 3, 1) := by decide +kernel
theorem dL_act_301 : decode cL_act 301 = .ok (.if_icmp .ne 11, 3) := by decide +kernel
theorem dL_act_304 : decode cL_act 304 = .ok (.iload_n 3, 1) := by decide +kernel
theorem dL_act_305 : decode cL_act 305 = .ok (.iconst 2, 1) := by decide +kernel
theorem dL_act_306 : decode cL_act 306 = .ok (.invokestatic 99, 3) := by decide +kernel
theorem dL_act_309 : decode cL_act 309 = .ok (.goto 37, 3) := by decide +kernel
theorem dL_act_312 : decode cL_act 312 = .ok (.iload 8, 2) := by decide +kernel
theorem dL_act_314 : decode cL_act 314 = .ok (.iconst 4, 1) := by decide +kernel
theorem dL_act_315 : decode cL_act 315 = .ok (.if_icmp .ne 11, 3) := by decide +kernel
theorem dL_act_318 : decode cL_act 318 = .ok (.iload_n 3, 1) := by decide +kernel
theorem dL_act_319 : decode cL_act 319 = .ok (.iconst 3, 1) := by decide +kernel
theorem dL_act_320 : decode cL_act 320 = .ok (.invokestatic 99, 3) := by decide +kernel
theorem dL_act_323 : decode cL_act 323 = .ok (.goto 23, 3) := by decide +kernel
theorem dL_act_326 : decode cL_act 326 = .ok (.iload 8, 2) := by decide +kernel
theorem dL_act_328 : decode cL_act 328 = .ok (.iconst 5, 1) := by decide +kernel
theorem dL_act_329 : decode cL_act 329 = .ok (.if_icmp .ne 12, 3) := by decide +kernel
theorem dL_act_332 : decode cL_act 332 = .ok (.iload_n 3, 1) := by decide +kernel
theorem dL_act_333 : decode cL_act 333 = .ok (.bipush 10, 2) := by decide +kernel
theorem dL_act_335 : decode cL_act 335 = .ok (.invokestatic 99, 3) := by decide +kernel
theorem dL_act_338 : decode cL_act 338 = .ok (.goto 8, 3) := by decide +kernel
theorem dL_act_341 : decode cL_act 341 = .ok (.iload_n 3, 1) := by decide +kernel
theorem dL_act_342 : decode cL_act 342 = .ok (.iconst 5, 1) := by decide +kernel
theorem dL_act_343 : decode cL_act 343 = .ok (.invokestatic 99, 3) := by decide +kernel
theorem dL_act_346 : decode cL_act 346 = .ok (.iastore, 1) := by decide +kernel
theorem dL_act_347 : decode cL_act 347 = .ok (.aload_n 0, 1) := by decide +kernel
theorem dL_act_348 : decode cL_act 348 = .ok (.iload 8, 2) := by decide +kernel
theorem dL_act_350 : decode cL_act 350 = .ok (.aload 7, 2) := by decide +kernel
theorem dL_act_352 : decode cL_act 352 = .ok (.iload 8, 2) := by decide +kernel
theorem dL_act_354 : decode cL_act 354 = .ok (.iaload, 1) := by decide +kernel
theorem dL_act_355 : decode cL_act 355 = .ok (.invokevirtual 124, 3) := by decide +kernel
theorem dL_act_358 : decode cL_act 358 = .ok (.iload 9, 2) := by decide +kernel
theorem dL_act_360 : decode cL_act 360 = .ok (.if_icmp .ne 7, 3) := by decide +kernel
theorem dL_act_363 : decode cL_act 363 = .ok (.iconst 1, 1) := by decide +kernel
theorem dL_act_364 : decode cL_act 364 = .ok (.goto 4, 3) := by decide +kernel
theorem dL_act_367 : decode cL_act 367 = .ok (.iconst 0, 1) := by decide +kernel
theorem dL_act_368 : decode cL_act 368 = .ok (.ireturn, 1) := by decide +kernel
theorem pd_L_act : (parseMethodDescriptor yL_act.desc).map (fun d => d.parameters.length) = some 8 := by decide +kernel
def w_L_act (zz : Nat → Nat) (a0 : Nat) (a1 : Int) (a2 : Int) (a3 : Int) (a4 : Nat) (a5 : Nat) (a6 : Nat) (a7 : Nat) (h : AH) (Q : Int → AH → Prop) : Prop := (((4 : Int) ≤ a1) → (((9 : Int) ≤ a1) → ((¬ a1 = (9 : Int)) → w_L_at zz a2 (8 : Int) h (fun (r236 : Int) (h236 : AH) => okI h236 a7 r236 ∧ ∀ x9_246 : Int, x9_246 = (haI h236 a7 r236) → jn (fun (t2_346 : Int) (h_346 : AH) => okW h_346 a7 r236 ∧ ∀ h346 : AH, h346 = saI h_346 a7 (u1 (haI h_346 a7) r236 t2_346) → okI h346 a7 r236 ∧ okA h346 a0 6 ∧ w_X6_set zz a0 r236 (haI h346 a7 r236) h346 (fun (r355 : Int) (h355 : AH) => jn (fun (t0_368 : Int) (h_368 : AH) => (t0_368 = 0 ∨ t0_368 = 1) ∧ Q t0_368 h_368) (fun k_368 : Int → AH → Prop => ((¬ r355 = x9_246) → k_368 (0 : Int) h355) ∧ ((r355 = x9_246) → k_368 (1 : Int) h355))) (fun _ _ => False)) (fun k_346 : Int → AH → Prop => ((¬ r236 = 0) → ((¬ r236 = (1 : Int)) → ((¬ r236 = (2 : Int)) → ((¬ r236 = (3 : Int)) → ((¬ r236 = (4 : Int)) → ((¬ r236 = (5 : Int)) → w_L_at zz a3 (5 : Int) h236 (fun (r343 : Int) (h343 : AH) => k_346 r343 h343)) ∧ ((r236 = (5 : Int)) → w_L_at zz a3 (10 : Int) h236 (fun (r335 : Int) (h335 : AH) => k_346 r335 h335))) ∧ ((r236 = (4 : Int)) → w_L_at zz a3 (3 : Int) h236 (fun (r320 : Int) (h320 : AH) => k_346 r320 h320))) ∧ ((r236 = (3 : Int)) → w_L_at zz a3 (2 : Int) h236 (fun (r306 : Int) (h306 : AH) => k_346 r306 h306))) ∧ ((r236 = (2 : Int)) → w_L_at zz a3 (30 : Int) h236 (fun (r292 : Int) (h292 : AH) => k_346 r292 h292))) ∧ ((r236 = (1 : Int)) → w_L_at zz a3 (60 : Int) h236 (fun (r277 : Int) (h277 : AH) => k_346 r277 h277))) ∧ ((r236 = 0) → w_L_at zz a3 (9 : Int) h236 (fun (r261 : Int) (h261 : AH) => inR ((1 : Int) + r261) ∧ k_346 ((1 : Int) + r261) h261))))) ∧ ((a1 = (9 : Int)) → okI h a6 (0 : Int) ∧ ∀ x8_159 : Int, x8_159 = (haI h a6 (0 : Int)) → okI h a6 (1 : Int) ∧ okW h a6 (0 : Int) ∧ ∀ h168 : AH, h168 = saI h a6 (u1 (haI h a6) (0 : Int) (haI h a6 (1 : Int))) → okW h168 a6 (1 : Int) ∧ ∀ h174 : AH, h174 = saI h168 a6 (u1 (haI h168 a6) (1 : Int) x8_159) → ∃ I_178 : Nat → Int → AH → Prop, (∃ n, I_178 n (0 : Int) h174) ∧ ∀ (n_178 : Nat) (x9_178 : Int) (h_178 : AH), I_178 n_178 x9_178 h_178 → ((((16 : Int) ≤ x9_178) → okA h_178 a0 6 ∧ w_X6_swap zz a0 h_178 (fun (r216 : Int) (h216 : AH) => okA h216 a0 6 ∧ w_X6_count zz a0 (0 : Int) h216 (fun (r221 : Int) (h221 : AH) => jn (fun (t0_232 : Int) (h_232 : AH) => (t0_232 = 0 ∨ t0_232 = 1) ∧ Q t0_232 h_232) (fun k_232 : Int → AH → Prop => ((¬ r216 = r221) → k_232 (0 : Int) h221) ∧ ((r216 = r221) → k_232 (1 : Int) h221))) (fun _ _ => False))) ∧ ((¬ ((16 : Int) ≤ x9_178)) → okI h_178 a4 x9_178 ∧ ∀ x10_190 : Int, x10_190 = (haI h_178 a4 x9_178) → okI h_178 a5 x9_178 ∧ okW h_178 a4 x9_178 ∧ ∀ h201 : AH, h201 = saI h_178 a4 (u1 (haI h_178 a4) x9_178 (haI h_178 a5 x9_178)) → okW h201 a5 x9_178 ∧ ∀ h208 : AH, h208 = saI h201 a5 (u1 (haI h201 a5) x9_178 x10_190) → inR (x9_178 + 1) ∧ ∀ x9_209 : Int, x9_209 = (x9_178 + 1) → ∃ m, m < n_178 ∧ I_178 m x9_209 h208)))) ∧ ((¬ ((9 : Int) ≤ a1)) → w_L_at zz a2 (2 : Int) h (fun (r38 : Int) (h38 : AH) => (0 ≤ (2 : Int) ∧ (2 : Int) < 32) ∧ w_L_at zz (a2 / (2 : Int) ^ ((2 : Int)).toNat) (5 : Int) h38 (fun (r49 : Int) (h49 : AH) => inR ((16 : Int) * r49) ∧ w_L_at zz a3 (10 : Int) h49 (fun (r56 : Int) (h56 : AH) => inR (((16 : Int) * r49) + r56) ∧ ∀ x9_60 : Int, x9_60 = (((16 : Int) * r49) + r56) → (0 ≤ (5 : Int) ∧ (5 : Int) < 32) ∧ w_L_at zz (a2 / (2 : Int) ^ ((5 : Int)).toNat) (4 : Int) h56 (fun (r66 : Int) (h66 : AH) => jn (fun (t0_97 : Int) (h_97 : AH) => (0 ≤ x9_60 ∧ 0 < (16 : Int)) ∧ (0 ≤ x9_60 ∧ 0 < (16 : Int)) ∧ okA h_97 a0 6 ∧ w_X6_put zz a0 r38 (x9_60 / (16 : Int)) (x9_60 % (16 : Int)) t0_97 h_97 (fun (r114 : Int) (h114 : AH) => jn (fun (t4_135 : Nat) (h_135 : AH) => w_L_change zz x9_60 t0_97 r38 t4_135 a6 h_135 (fun (r137 : Int) (h137 : AH) => jn (fun (t0_148 : Int) (h_148 : AH) => (t0_148 = 0 ∨ t0_148 = 1) ∧ Q t0_148 h_148) (fun k_148 : Int → AH → Prop => ((¬ r114 = r137) → k_148 (0 : Int) h137) ∧ ((r114 = r137) → k_148 (1 : Int) h137)))) (fun k_135 : Nat → AH → Prop => ((¬ r38 = 0) → k_135 a5 h114) ∧ ((r38 = 0) → k_135 a4 h114))) (fun _ _ => False)) (fun k_97 : Int → AH → Prop => jn (fun  (h_82 : AH) => k_97 (32 : Int) h_82) (fun k_82 : AH → Prop => ((r66 = 0) → k_82  h66) ∧ ((¬ (r66 = 0)) → okI h66 a6 r38 ∧ ((¬ (haI h66 a6 r38) = (8 : Int)) → (0 ≤ (5 : Int) ∧ (5 : Int) < 32) ∧ w_L_at zz (a3 / (2 : Int) ^ ((5 : Int)).toNat) (5 : Int) h66 (fun (r93 : Int) (h93 : AH) => inR ((97 : Int) + r93) ∧ k_97 ((97 : Int) + r93) h93)) ∧ (((haI h66 a6 r38) = (8 : Int)) → k_82  h66)))))))))) ∧ ((¬ ((4 : Int) ≤ a1)) → (0 ≤ a1 ∧ 0 < (2 : Int)) ∧ (0 ≤ a1 ∧ 0 < (2 : Int)) ∧ jn (fun (t4_24 : Nat) (h_24 : AH) => w_L_load zz a0 (a1 % (2 : Int)) a2 a3 t4_24 a6 h_24 (fun (r26 : Int) (h26 : AH) => (r26 = 0 ∨ r26 = 1) ∧ Q r26 h26)) (fun k_24 : Nat → AH → Prop => ((¬ (a1 % (2 : Int)) = 0) → k_24 a5 h) ∧ (((a1 % (2 : Int)) = 0) → k_24 a4 h)))
set_option maxRecDepth 100000 in
set_option maxHeartbeats 4000000 in
theorem met_L_act (G : GG) (l : Launch) : ∀ (As : List Value) (a0 : Nat) (a1 : Int) (a2 : Int) (a3 : Int) (a4 : Nat) (a5 : Nat) (a6 : Nat) (a7 : Nat) (h : AH) (Q : Int → AH → Prop), As.map ab = List.map some ([vR a0, vI a1, vI a2, vI a3, vR a4, vR a5, vR a6, vR a7] : List AV) → w_L_act G.2.2 a0 a1 a2 a3 a4 a5 a6 a7 h Q → Met l yL_act (.code yL_act cL_act 11 (some .boolean) :: xTb) ({ frames := 7, cells := 0, slots := 0, locals := 157 } : Room) (PcA G As h) (QG G (oI Q)) 0 0 (frA G) := by
  intro As a0 a1 a2 a3 a4 a5 a6 a7 h Q hA hw
  refine met_of hA (by decide) (Nat.le_of_ble_eq_true rfl) (fun p e s m args below meth c C hml hr hnm => ?_)
  unfold w_L_act at hw
  refine aw_iload_n (pc := 0) C dL_act_0 rfl rfl ?_
  refine aw_iconst (pc := 1) C dL_act_1 (i := (4 : Int)) (by decide) ?_
  refine aw_icmp_ge (pc := 2) (tgt := 30) C dL_act_2 (by decide) (fun hc9 => ?_) (fun hc9 => ?_)
  · have hw := hw.1 hc9
    refine aw_iload_n (pc := 30) C dL_act_30 rfl rfl ?_
    refine aw_bipush (pc := 31) C dL_act_31 (i := (9 : Int)) (by decide) ?_
    refine aw_icmp_ge (pc := 33) (tgt := 149) C dL_act_33 (by decide) (fun hc9 => ?_) (fun hc9 => ?_)
    · have hw := hw.1 hc9
      refine aw_iload_n (pc := 149) C dL_act_149 rfl rfl ?_
      refine aw_bipush (pc := 150) C dL_act_150 (i := (9 : Int)) (by decide) ?_
      refine aw_icmp_ne (pc := 152) (tgt := 233) C dL_act_152 (by decide) (fun hc9 => ?_) (fun hc9 => ?_)
      · have hw := hw.1 hc9
        refine aw_iload_n (pc := 233) C dL_act_233 rfl rfl ?_
        refine aw_bipush (pc := 234) C dL_act_234 (i := (8 : Int)) (by decide) ?_
        refine aw_callS (pc := 236) (as := [vI a2, vI (8 : Int)]) C (fun As hA => met_L_at G l As a2 (8 : Int) _ _ hA hw) tw447 tw448 tw0 tw449 ⟨rfl, rfl⟩ ⟨by decide, by decide, pd_L_at⟩ ⟨Nat.le_of_ble_eq_true rfl, Nat.le_of_ble_eq_true rfl⟩ ⟨(Nat.le_of_ble_eq_true rfl), (Nat.le_of_ble_eq_true rfl)⟩ (Nat.le_of_ble_eq_true rfl) dL_act_236 rfl (fun v9 h236 hq9 => ?_)
        obtain ⟨r236, rfl, hw⟩ := hq9
        refine aw_istore (pc := 239) C dL_act_239 (by rw [hml]; decide) ?_
        refine aw_aload (pc := 241) C dL_act_241 rfl ?_
        refine aw_iload (pc := 243) C dL_act_243 rfl ?_
        obtain ⟨⟨k9, hp9⟩, hw⟩ := hw
        refine aw_iald (pc := 245) C dL_act_245 hp9 ?_
        refine aw_nmI (fun x9_246 e9 => ?_)
        have hw := hw x9_246 e9
        refine aw_istore (pc := 246) C dL_act_246 (by rw [hml]; decide) ?_
        refine aw_aload (pc := 248) C dL_act_248 rfl ?_
        refine aw_iload (pc := 250) C dL_act_250 rfl ?_
        refine aw_iload (pc := 252) C dL_act_252 rfl ?_
        obtain ⟨k_346, hk_346, hw⟩ := jn_out hw
        have J_346 : ∀ (t2_346 : Int) (h_346 : AH), k_346 t2_346 h_346 → AW G p l e ({ frames := 7, cells := 0, slots := 0, locals := 157 } : Room) s m args below meth c 0 0 (MQ below (QG G (oI Q)) args s 0 0 (frA G)) 346 (eOf [(0, vR a0), (7, vR a7), (8, vI r236), (9, vI x9_246)]) [vI t2_346, vI r236, vR a7] h_346 := by
          intro t2_346 h_346 hw
          rw [hk_346] at hw
          obtain ⟨⟨k9, hp9⟩, hw⟩ := hw
          refine aw_iast (pc := 346) C dL_act_346 hp9 (aw_nmH (fun h346 e9 => ?_))
          have hw := hw h346 e9
          refine aw_aload_n (pc := 347) C dL_act_347 rfl rfl ?_
          refine aw_iload (pc := 348) C dL_act_348 rfl ?_
          refine aw_aload (pc := 350) C dL_act_350 rfl ?_
          refine aw_iload (pc := 352) C dL_act_352 rfl ?_
          obtain ⟨⟨k9, hp9⟩, hw⟩ := hw
          refine aw_iald (pc := 354) C dL_act_354 hp9 ?_
          obtain ⟨hp9, hw⟩ := hw
          refine aw_callV (pc := 355) (as := [vI r236, vI (haI h346 a7 r236)]) C ci6 (fun As hA => met_X6_set G l As a0 r236 (haI h346 a7 r236) _ _ hA hw) tw730 tw731 tw732 tw1 tw733 ⟨rfl, rfl⟩ ⟨rfl, by decide, by decide, pd_X6_set⟩ ⟨Nat.le_of_ble_eq_true rfl, Nat.le_of_ble_eq_true rfl⟩ ⟨(Nat.le_of_ble_eq_true rfl), (Nat.le_of_ble_eq_true rfl)⟩ (Nat.le_of_ble_eq_true rfl) dL_act_355 rfl hp9 (fun v9 h355 hq9 => ?_)
          obtain ⟨r355, rfl, hw⟩ := hq9
          refine aw_iload (pc := 358) C dL_act_358 rfl ?_
          obtain ⟨k_368, hk_368, hw⟩ := jn_out hw
          have J_368 : ∀ (t0_368 : Int) (h_368 : AH), k_368 t0_368 h_368 → AW G p l e ({ frames := 7, cells := 0, slots := 0, locals := 157 } : Room) s m args below meth c 0 0 (MQ below (QG G (oI Q)) args s 0 0 (frA G)) 368 (eOf []) [vI t0_368] h_368 := by
            intro t0_368 h_368 hw
            rw [hk_368] at hw
            obtain ⟨hp9, hw⟩ := hw
            exact aw_zret (pc := 368) C hr dL_act_368 ⟨Nat.le_of_ble_eq_true rfl, Nat.le_of_ble_eq_true rfl⟩ hp9 ⟨_, rfl, hw⟩
          refine aw_icmp_ne (pc := 360) (tgt := 367) C dL_act_360 (by decide) (fun hc9 => ?_) (fun hc9 => ?_)
          · have hw := hw.1 hc9
            refine aw_iconst (pc := 367) C dL_act_367 (i := (0 : Int)) (by decide) ?_
            refine aw_sub [] trivial ?_
            exact J_368 _ _ hw
          · have hw := hw.2 hc9
            refine aw_iconst (pc := 363) C dL_act_363 (i := (1 : Int)) (by decide) ?_
            refine aw_goto (pc := 364) (tgt := 368) C dL_act_364 (by decide) ?_
            refine aw_sub [] trivial ?_
            exact J_368 _ _ hw
        refine aw_if_ne (pc := 254) (tgt := 268) C dL_act_254 (by decide) (fun hc9 => ?_) (fun hc9 => ?_)
        · have hw := hw.1 hc9
          refine aw_iload (pc := 268) C dL_act_268 rfl ?_
          refine aw_iconst (pc := 270) C dL_act_270 (i := (1 : Int)) (by decide) ?_
          refine aw_icmp_ne (pc := 271) (tgt := 283) C dL_act_271 (by decide) (fun hc9 => ?_) (fun hc9 => ?_)
          · have hw := hw.1 hc9
            refine aw_iload (pc := 283) C dL_act_283 rfl ?_
            refine aw_iconst (pc := 285) C dL_act_285 (i := (2 : Int)) (by decide) ?_
            refine aw_icmp_ne (pc := 286) (tgt := 298) C dL_act_286 (by decide) (fun hc9 => ?_) (fun hc9 => ?_)
            · have hw := hw.1 hc9
              refine aw_iload (pc := 298) C dL_act_298 rfl ?_
              refine aw_iconst (pc := 300) C dL_act_300 (i := (3 : Int)) (by decide) ?_
              refine aw_icmp_ne (pc := 301) (tgt := 312) C dL_act_301 (by decide) (fun hc9 => ?_) (fun hc9 => ?_)
              · have hw := hw.1 hc9
                refine aw_iload (pc := 312) C dL_act_312 rfl ?_
                refine aw_iconst (pc := 314) C dL_act_314 (i := (4 : Int)) (by decide) ?_
                refine aw_icmp_ne (pc := 315) (tgt := 326) C dL_act_315 (by decide) (fun hc9 => ?_) (fun hc9 => ?_)
                · have hw := hw.1 hc9
                  refine aw_iload (pc := 326) C dL_act_326 rfl ?_
                  refine aw_iconst (pc := 328) C dL_act_328 (i := (5 : Int)) (by decide) ?_
                  refine aw_icmp_ne (pc := 329) (tgt := 341) C dL_act_329 (by decide) (fun hc9 => ?_) (fun hc9 => ?_)
                  · have hw := hw.1 hc9
                    refine aw_iload_n (pc := 341) C dL_act_341 rfl rfl ?_
                    refine aw_iconst (pc := 342) C dL_act_342 (i := (5 : Int)) (by decide) ?_
                    refine aw_callS (pc := 343) (as := [vI a3, vI (5 : Int)]) C (fun As hA => met_L_at G l As a3 (5 : Int) _ _ hA hw) tw447 tw448 tw0 tw449 ⟨rfl, rfl⟩ ⟨by decide, by decide, pd_L_at⟩ ⟨Nat.le_of_ble_eq_true rfl, Nat.le_of_ble_eq_true rfl⟩ ⟨(Nat.le_of_ble_eq_true rfl), (Nat.le_of_ble_eq_true rfl)⟩ (Nat.le_of_ble_eq_true rfl) dL_act_343 rfl (fun v9 h343 hq9 => ?_)
                    obtain ⟨r343, rfl, hw⟩ := hq9
                    refine aw_sub [(0, vR a0), (7, vR a7), (8, vI r236), (9, vI x9_246)] ⟨rfl, rfl, rfl, rfl, trivial⟩ ?_
                    exact J_346 _ _ hw
                  · have hw := hw.2 hc9
                    refine aw_iload_n (pc := 332) C dL_act_332 rfl rfl ?_
                    refine aw_bipush (pc := 333) C dL_act_333 (i := (10 : Int)) (by decide) ?_
                    refine aw_callS (pc := 335) (as := [vI a3, vI (10 : Int)]) C (fun As hA => met_L_at G l As a3 (10 : Int) _ _ hA hw) tw447 tw448 tw0 tw449 ⟨rfl, rfl⟩ ⟨by decide, by decide, pd_L_at⟩ ⟨Nat.le_of_ble_eq_true rfl, Nat.le_of_ble_eq_true rfl⟩ ⟨(Nat.le_of_ble_eq_true rfl), (Nat.le_of_ble_eq_true rfl)⟩ (Nat.le_of_ble_eq_true rfl) dL_act_335 rfl (fun v9 h335 hq9 => ?_)
                    obtain ⟨r335, rfl, hw⟩ := hq9
                    refine aw_goto (pc := 338) (tgt := 346) C dL_act_338 (by decide) ?_
                    refine aw_sub [(0, vR a0), (7, vR a7), (8, vI r236), (9, vI x9_246)] ⟨rfl, rfl, rfl, rfl, trivial⟩ ?_
                    exact J_346 _ _ hw
                · have hw := hw.2 hc9
                  refine aw_iload_n (pc := 318) C dL_act_318 rfl rfl ?_
                  refine aw_iconst (pc := 319) C dL_act_319 (i := (3 : Int)) (by decide) ?_
                  refine aw_callS (pc := 320) (as := [vI a3, vI (3 : Int)]) C (fun As hA => met_L_at G l As a3 (3 : Int) _ _ hA hw) tw447 tw448 tw0 tw449 ⟨rfl, rfl⟩ ⟨by decide, by decide, pd_L_at⟩ ⟨Nat.le_of_ble_eq_true rfl, Nat.le_of_ble_eq_true rfl⟩ ⟨(Nat.le_of_ble_eq_true rfl), (Nat.le_of_ble_eq_true rfl)⟩ (Nat.le_of_ble_eq_true rfl) dL_act_320 rfl (fun v9 h320 hq9 => ?_)
                  obtain ⟨r320, rfl, hw⟩ := hq9
                  refine aw_goto (pc := 323) (tgt := 346) C dL_act_323 (by decide) ?_
                  refine aw_sub [(0, vR a0), (7, vR a7), (8, vI r236), (9, vI x9_246)] ⟨rfl, rfl, rfl, rfl, trivial⟩ ?_
                  exact J_346 _ _ hw
              · have hw := hw.2 hc9
                refine aw_iload_n (pc := 304) C dL_act_304 rfl rfl ?_
                refine aw_iconst (pc := 305) C dL_act_305 (i := (2 : Int)) (by decide) ?_
                refine aw_callS (pc := 306) (as := [vI a3, vI (2 : Int)]) C (fun As hA => met_L_at G l As a3 (2 : Int) _ _ hA hw) tw447 tw448 tw0 tw449 ⟨rfl, rfl⟩ ⟨by decide, by decide, pd_L_at⟩ ⟨Nat.le_of_ble_eq_true rfl, Nat.le_of_ble_eq_true rfl⟩ ⟨(Nat.le_of_ble_eq_true rfl), (Nat.le_of_ble_eq_true rfl)⟩ (Nat.le_of_ble_eq_true rfl) dL_act_306 rfl (fun v9 h306 hq9 => ?_)
                obtain ⟨r306, rfl, hw⟩ := hq9
                refine aw_goto (pc := 309) (tgt := 346) C dL_act_309 (by decide) ?_
                refine aw_sub [(0, vR a0), (7, vR a7), (8, vI r236), (9, vI x9_246)] ⟨rfl, rfl, rfl, rfl, trivial⟩ ?_
                exact J_346 _ _ hw
            · have hw := hw.2 hc9
              refine aw_iload_n (pc := 289) C dL_act_289 rfl rfl ?_
              refine aw_bipush (pc := 290) C dL_act_290 (i := (30 : Int)) (by decide) ?_
              refine aw_callS (pc := 292) (as := [vI a3, vI (30 : Int)]) C (fun As hA => met_L_at G l As a3 (30 : Int) _ _ hA hw) tw447 tw448 tw0 tw449 ⟨rfl, rfl⟩ ⟨by decide, by decide, pd_L_at⟩ ⟨Nat.le_of_ble_eq_true rfl, Nat.le_of_ble_eq_true rfl⟩ ⟨(Nat.le_of_ble_eq_true rfl), (Nat.le_of_ble_eq_true rfl)⟩ (Nat.le_of_ble_eq_true rfl) dL_act_292 rfl (fun v9 h292 hq9 => ?_)
              obtain ⟨r292, rfl, hw⟩ := hq9
              refine aw_goto (pc := 295) (tgt := 346) C dL_act_295 (by decide) ?_
              refine aw_sub [(0, vR a0), (7, vR a7), (8, vI r236), (9, vI x9_246)] ⟨rfl, rfl, rfl, rfl, trivial⟩ ?_
              exact J_346 _ _ hw
          · have hw := hw.2 hc9
            refine aw_iload_n (pc := 274) C dL_act_274 rfl rfl ?_
            refine aw_bipush (pc := 275) C dL_act_275 (i := (60 : Int)) (by decide) ?_
            refine aw_callS (pc := 277) (as := [vI a3, vI (60 : Int)]) C (fun As hA => met_L_at G l As a3 (60 : Int) _ _ hA hw) tw447 tw448 tw0 tw449 ⟨rfl, rfl⟩ ⟨by decide, by decide, pd_L_at⟩ ⟨Nat.le_of_ble_eq_true rfl, Nat.le_of_ble_eq_true rfl⟩ ⟨(Nat.le_of_ble_eq_true rfl), (Nat.le_of_ble_eq_true rfl)⟩ (Nat.le_of_ble_eq_true rfl) dL_act_277 rfl (fun v9 h277 hq9 => ?_)
            obtain ⟨r277, rfl, hw⟩ := hq9
            refine aw_goto (pc := 280) (tgt := 346) C dL_act_280 (by decide) ?_
            refine aw_sub [(0, vR a0), (7, vR a7), (8, vI r236), (9, vI x9_246)] ⟨rfl, rfl, rfl, rfl, trivial⟩ ?_
            exact J_346 _ _ hw
        · have hw := hw.2 hc9
          refine aw_iconst (pc := 257) C dL_act_257 (i := (1 : Int)) (by decide) ?_
          refine aw_iload_n (pc := 258) C dL_act_258 rfl rfl ?_
          refine aw_bipush (pc := 259) C dL_act_259 (i := (9 : Int)) (by decide) ?_
          refine aw_callS (pc := 261) (as := [vI a3, vI (9 : Int)]) C (fun As hA => met_L_at G l As a3 (9 : Int) _ _ hA hw) tw447 tw448 tw0 tw449 ⟨rfl, rfl⟩ ⟨by decide, by decide, pd_L_at⟩ ⟨Nat.le_of_ble_eq_true rfl, Nat.le_of_ble_eq_true rfl⟩ ⟨(Nat.le_of_ble_eq_true rfl), (Nat.le_of_ble_eq_true rfl)⟩ (Nat.le_of_ble_eq_true rfl) dL_act_261 rfl (fun v9 h261 hq9 => ?_)
          obtain ⟨r261, rfl, hw⟩ := hq9
          obtain ⟨hp9, hw⟩ := hw
          refine aw_iadd (pc := 264) C dL_act_264 hp9 ?_
          refine aw_goto (pc := 265) (tgt := 346) C dL_act_265 (by decide) ?_
          refine aw_sub [(0, vR a0), (7, vR a7), (8, vI r236), (9, vI x9_246)] ⟨rfl, rfl, rfl, rfl, trivial⟩ ?_
          exact J_346 _ _ hw
      · have hw := hw.2 hc9
        refine aw_aload (pc := 155) C dL_act_155 rfl ?_
        refine aw_iconst (pc := 157) C dL_act_157 (i := (0 : Int)) (by decide) ?_
        obtain ⟨⟨k9, hp9⟩, hw⟩ := hw
        refine aw_iald (pc := 158) C dL_act_158 hp9 ?_
        refine aw_nmI (fun x8_159 e9 => ?_)
        have hw := hw x8_159 e9
        refine aw_istore (pc := 159) C dL_act_159 (by rw [hml]; decide) ?_
        refine aw_aload (pc := 161) C dL_act_161 rfl ?_
        refine aw_iconst (pc := 163) C dL_act_163 (i := (0 : Int)) (by decide) ?_
        refine aw_aload (pc := 164) C dL_act_164 rfl ?_
        refine aw_iconst (pc := 166) C dL_act_166 (i := (1 : Int)) (by decide) ?_
        obtain ⟨⟨k9, hp9⟩, hw⟩ := hw
        refine aw_iald (pc := 167) C dL_act_167 hp9 ?_
        obtain ⟨⟨k9, hp9⟩, hw⟩ := hw
        refine aw_iast (pc := 168) C dL_act_168 hp9 (aw_nmH (fun h168 e9 => ?_))
        have hw := hw h168 e9
        refine aw_aload (pc := 169) C dL_act_169 rfl ?_
        refine aw_iconst (pc := 171) C dL_act_171 (i := (1 : Int)) (by decide) ?_
        refine aw_iload (pc := 172) C dL_act_172 rfl ?_
        obtain ⟨⟨k9, hp9⟩, hw⟩ := hw
        refine aw_iast (pc := 174) C dL_act_174 hp9 (aw_nmH (fun h174 e9 => ?_))
        have hw := hw h174 e9
        refine aw_iconst (pc := 175) C dL_act_175 (i := (0 : Int)) (by decide) ?_
        refine aw_istore (pc := 176) C dL_act_176 (by rw [hml]; decide) ?_
        obtain ⟨I_178, ⟨n9, hi9⟩, hst9⟩ := hw
        have L_178 : ∀ (n_178 : Nat) (x9_178 : Int) (h_178 : AH), I_178 n_178 x9_178 h_178 → AW G p l e ({ frames := 7, cells := 0, slots := 0, locals := 157 } : Room) s m args below meth c 0 0 (MQ below (QG G (oI Q)) args s 0 0 (frA G)) 178 (eOf [(0, vR a0), (4, vR a4), (5, vR a5), (9, vI x9_178)]) [] h_178 := by
          intro n_178
          induction n_178 using Nat.strongRecOn with
          | _ n_178 ih_178 =>
          intro x9_178 h_178 hi9
          have hw := hst9 n_178 x9_178 h_178 hi9
          refine aw_iload (pc := 178) C dL_act_178 rfl ?_
          refine aw_bipush (pc := 180) C dL_act_180 (i := (16 : Int)) (by decide) ?_
          refine aw_icmp_ge (pc := 182) (tgt := 215) C dL_act_182 (by decide) (fun hc9 => ?_) (fun hc9 => ?_)
          · have hw := hw.1 hc9
            refine aw_aload_n (pc := 215) C dL_act_215 rfl rfl ?_
            obtain ⟨hp9, hw⟩ := hw
            refine aw_callV (pc := 216) (as := []) C ci6 (fun As hA => met_X6_swap G l As a0 _ _ hA hw) tw722 tw723 tw724 tw1 tw725 ⟨rfl, rfl⟩ ⟨rfl, by decide, by decide, pd_X6_swap⟩ ⟨Nat.le_of_ble_eq_true rfl, Nat.le_of_ble_eq_true rfl⟩ ⟨(Nat.le_of_ble_eq_true rfl), (Nat.le_of_ble_eq_true rfl)⟩ (Nat.le_of_ble_eq_true rfl) dL_act_216 rfl hp9 (fun v9 h216 hq9 => ?_)
            obtain ⟨r216, rfl, hw⟩ := hq9
            refine aw_aload_n (pc := 219) C dL_act_219 rfl rfl ?_
            refine aw_iconst (pc := 220) C dL_act_220 (i := (0 : Int)) (by decide) ?_
            obtain ⟨hp9, hw⟩ := hw
            refine aw_callV (pc := 221) (as := [vI (0 : Int)]) C ci6 (fun As hA => met_X6_count G l As a0 (0 : Int) _ _ hA hw) tw243 tw244 tw245 tw1 tw246 ⟨rfl, rfl⟩ ⟨rfl, by decide, by decide, pd_X6_count⟩ ⟨Nat.le_of_ble_eq_true rfl, Nat.le_of_ble_eq_true rfl⟩ ⟨(Nat.le_of_ble_eq_true rfl), (Nat.le_of_ble_eq_true rfl)⟩ (Nat.le_of_ble_eq_true rfl) dL_act_221 rfl hp9 (fun v9 h221 hq9 => ?_)
            obtain ⟨r221, rfl, hw⟩ := hq9
            obtain ⟨k_232, hk_232, hw⟩ := jn_out hw
            have J_232 : ∀ (t0_232 : Int) (h_232 : AH), k_232 t0_232 h_232 → AW G p l e ({ frames := 7, cells := 0, slots := 0, locals := 157 } : Room) s m args below meth c 0 0 (MQ below (QG G (oI Q)) args s 0 0 (frA G)) 232 (eOf []) [vI t0_232] h_232 := by
              intro t0_232 h_232 hw
              rw [hk_232] at hw
              obtain ⟨hp9, hw⟩ := hw
              exact aw_zret (pc := 232) C hr dL_act_232 ⟨Nat.le_of_ble_eq_true rfl, Nat.le_of_ble_eq_true rfl⟩ hp9 ⟨_, rfl, hw⟩
            refine aw_icmp_ne (pc := 224) (tgt := 231) C dL_act_224 (by decide) (fun hc9 => ?_) (fun hc9 => ?_)
            · have hw := hw.1 hc9
              refine aw_iconst (pc := 231) C dL_act_231 (i := (0 : Int)) (by decide) ?_
              refine aw_sub [] trivial ?_
              exact J_232 _ _ hw
            · have hw := hw.2 hc9
              refine aw_iconst (pc := 227) C dL_act_227 (i := (1 : Int)) (by decide) ?_
              refine aw_goto (pc := 228) (tgt := 232) C dL_act_228 (by decide) ?_
              refine aw_sub [] trivial ?_
              exact J_232 _ _ hw
          · have hw := hw.2 hc9
            refine aw_aload (pc := 185) C dL_act_185 rfl ?_
            refine aw_iload (pc := 187) C dL_act_187 rfl ?_
            obtain ⟨⟨k9, hp9⟩, hw⟩ := hw
            refine aw_iald (pc := 189) C dL_act_189 hp9 ?_
            refine aw_nmI (fun x10_190 e9 => ?_)
            have hw := hw x10_190 e9
            refine aw_istore (pc := 190) C dL_act_190 (by rw [hml]; decide) ?_
            refine aw_aload (pc := 192) C dL_act_192 rfl ?_
            refine aw_iload (pc := 194) C dL_act_194 rfl ?_
            refine aw_aload (pc := 196) C dL_act_196 rfl ?_
            refine aw_iload (pc := 198) C dL_act_198 rfl ?_
            obtain ⟨⟨k9, hp9⟩, hw⟩ := hw
            refine aw_iald (pc := 200) C dL_act_200 hp9 ?_
            obtain ⟨⟨k9, hp9⟩, hw⟩ := hw
            refine aw_iast (pc := 201) C dL_act_201 hp9 (aw_nmH (fun h201 e9 => ?_))
            have hw := hw h201 e9
            refine aw_aload (pc := 202) C dL_act_202 rfl ?_
            refine aw_iload (pc := 204) C dL_act_204 rfl ?_
            refine aw_iload (pc := 206) C dL_act_206 rfl ?_
            obtain ⟨⟨k9, hp9⟩, hw⟩ := hw
            refine aw_iast (pc := 208) C dL_act_208 hp9 (aw_nmH (fun h208 e9 => ?_))
            have hw := hw h208 e9
            obtain ⟨hp9, hw⟩ := hw
            refine aw_iincN (pc := 209) C dL_act_209 (k := 1) (by decide) rfl (by rw [hml]; decide) hp9 (fun x9_209 e9 => ?_)
            have hw := hw x9_209 e9
            refine aw_goto (pc := 212) (tgt := 178) C dL_act_212 (by decide) ?_
            obtain ⟨m9, hm9, hw⟩ := hw
            refine aw_sub [(0, vR a0), (4, vR a4), (5, vR a5), (9, vI x9_209)] ⟨rfl, rfl, rfl, rfl, trivial⟩ ?_
            exact ih_178 m9 hm9 _ _ hw
        refine aw_sub [(0, vR a0), (4, vR a4), (5, vR a5), (9, vI (0 : Int))] ⟨rfl, rfl, rfl, rfl, trivial⟩ ?_
        exact L_178 n9 _ _ hi9
    · have hw := hw.2 hc9
      refine aw_iload_n (pc := 36) C dL_act_36 rfl rfl ?_
      refine aw_iconst (pc := 37) C dL_act_37 (i := (2 : Int)) (by decide) ?_
      refine aw_callS (pc := 38) (as := [vI a2, vI (2 : Int)]) C (fun As hA => met_L_at G l As a2 (2 : Int) _ _ hA hw) tw447 tw448 tw0 tw449 ⟨rfl, rfl⟩ ⟨by decide, by decide, pd_L_at⟩ ⟨Nat.le_of_ble_eq_true rfl, Nat.le_of_ble_eq_true rfl⟩ ⟨(Nat.le_of_ble_eq_true rfl), (Nat.le_of_ble_eq_true rfl)⟩ (Nat.le_of_ble_eq_true rfl) dL_act_38 rfl (fun v9 h38 hq9 => ?_)
      obtain ⟨r38, rfl, hw⟩ := hq9
      refine aw_istore (pc := 41) C dL_act_41 (by rw [hml]; decide) ?_
      refine aw_bipush (pc := 43) C dL_act_43 (i := (16 : Int)) (by decide) ?_
      refine aw_iload_n (pc := 45) C dL_act_45 rfl rfl ?_
      refine aw_iconst (pc := 46) C dL_act_46 (i := (2 : Int)) (by decide) ?_
      obtain ⟨hp9, hw⟩ := hw
      refine aw_ishr (pc := 47) C dL_act_47 hp9 ?_
      refine aw_iconst (pc := 48) C dL_act_48 (i := (5 : Int)) (by decide) ?_
      refine aw_callS (pc := 49) (as := [vI (a2 / (2 : Int) ^ ((2 : Int)).toNat), vI (5 : Int)]) C (fun As hA => met_L_at G l As (a2 / (2 : Int) ^ ((2 : Int)).toNat) (5 : Int) _ _ hA hw) tw447 tw448 tw0 tw449 ⟨rfl, rfl⟩ ⟨by decide, by decide, pd_L_at⟩ ⟨Nat.le_of_ble_eq_true rfl, Nat.le_of_ble_eq_true rfl⟩ ⟨(Nat.le_of_ble_eq_true rfl), (Nat.le_of_ble_eq_true rfl)⟩ (Nat.le_of_ble_eq_true rfl) dL_act_49 rfl (fun v9 h49 hq9 => ?_)
      obtain ⟨r49, rfl, hw⟩ := hq9
      obtain ⟨hp9, hw⟩ := hw
      refine aw_imul (pc := 52) C dL_act_52 hp9 ?_
      refine aw_iload_n (pc := 53) C dL_act_53 rfl rfl ?_
      refine aw_bipush (pc := 54) C dL_act_54 (i := (10 : Int)) (by decide) ?_
      refine aw_callS (pc := 56) (as := [vI a3, vI (10 : Int)]) C (fun As hA => met_L_at G l As a3 (10 : Int) _ _ hA hw) tw447 tw448 tw0 tw449 ⟨rfl, rfl⟩ ⟨by decide, by decide, pd_L_at⟩ ⟨Nat.le_of_ble_eq_true rfl, Nat.le_of_ble_eq_true rfl⟩ ⟨(Nat.le_of_ble_eq_true rfl), (Nat.le_of_ble_eq_true rfl)⟩ (Nat.le_of_ble_eq_true rfl) dL_act_56 rfl (fun v9 h56 hq9 => ?_)
      obtain ⟨r56, rfl, hw⟩ := hq9
      obtain ⟨hp9, hw⟩ := hw
      refine aw_iadd (pc := 59) C dL_act_59 hp9 ?_
      refine aw_nmI (fun x9_60 e9 => ?_)
      have hw := hw x9_60 e9
      refine aw_istore (pc := 60) C dL_act_60 (by rw [hml]; decide) ?_
      refine aw_iload_n (pc := 62) C dL_act_62 rfl rfl ?_
      refine aw_iconst (pc := 63) C dL_act_63 (i := (5 : Int)) (by decide) ?_
      obtain ⟨hp9, hw⟩ := hw
      refine aw_ishr (pc := 64) C dL_act_64 hp9 ?_
      refine aw_iconst (pc := 65) C dL_act_65 (i := (4 : Int)) (by decide) ?_
      refine aw_callS (pc := 66) (as := [vI (a2 / (2 : Int) ^ ((5 : Int)).toNat), vI (4 : Int)]) C (fun As hA => met_L_at G l As (a2 / (2 : Int) ^ ((5 : Int)).toNat) (4 : Int) _ _ hA hw) tw447 tw448 tw0 tw449 ⟨rfl, rfl⟩ ⟨by decide, by decide, pd_L_at⟩ ⟨Nat.le_of_ble_eq_true rfl, Nat.le_of_ble_eq_true rfl⟩ ⟨(Nat.le_of_ble_eq_true rfl), (Nat.le_of_ble_eq_true rfl)⟩ (Nat.le_of_ble_eq_true rfl) dL_act_66 rfl (fun v9 h66 hq9 => ?_)
      obtain ⟨r66, rfl, hw⟩ := hq9
      obtain ⟨k_97, hk_97, hw⟩ := jn_out hw
      have J_97 : ∀ (t0_97 : Int) (h_97 : AH), k_97 t0_97 h_97 → AW G p l e ({ frames := 7, cells := 0, slots := 0, locals := 157 } : Room) s m args below meth c 0 0 (MQ below (QG G (oI Q)) args s 0 0 (frA G)) 97 (eOf [(0, vR a0), (4, vR a4), (5, vR a5), (6, vR a6), (8, vI r38), (9, vI x9_60)]) [vI t0_97] h_97 := by
        intro t0_97 h_97 hw
        rw [hk_97] at hw
        refine aw_istore (pc := 97) C dL_act_97 (by rw [hml]; decide) ?_
        refine aw_aload_n (pc := 99) C dL_act_99 rfl rfl ?_
        refine aw_iload (pc := 100) C dL_act_100 rfl ?_
        refine aw_iload (pc := 102) C dL_act_102 rfl ?_
        refine aw_bipush (pc := 104) C dL_act_104 (i := (16 : Int)) (by decide) ?_
        obtain ⟨hp9, hw⟩ := hw
        refine aw_idiv (pc := 106) C dL_act_106 hp9 ?_
        refine aw_iload (pc := 107) C dL_act_107 rfl ?_
        refine aw_bipush (pc := 109) C dL_act_109 (i := (16 : Int)) (by decide) ?_
        obtain ⟨hp9, hw⟩ := hw
        refine aw_irem (pc := 111) C dL_act_111 hp9 ?_
        refine aw_iload (pc := 112) C dL_act_112 rfl ?_
        obtain ⟨hp9, hw⟩ := hw
        refine aw_callV (pc := 114) (as := [vI r38, vI (x9_60 / (16 : Int)), vI (x9_60 % (16 : Int)), vI t0_97]) C ci6 (fun As hA => met_X6_put G l As a0 r38 (x9_60 / (16 : Int)) (x9_60 % (16 : Int)) t0_97 _ _ hA hw) tw707 tw708 tw709 tw1 tw710 ⟨rfl, rfl⟩ ⟨rfl, by decide, by decide, pd_X6_put⟩ ⟨Nat.le_of_ble_eq_true rfl, Nat.le_of_ble_eq_true rfl⟩ ⟨(Nat.le_of_ble_eq_true rfl), (Nat.le_of_ble_eq_true rfl)⟩ (Nat.le_of_ble_eq_true rfl) dL_act_114 rfl hp9 (fun v9 h114 hq9 => ?_)
        obtain ⟨r114, rfl, hw⟩ := hq9
        refine aw_iload (pc := 117) C dL_act_117 rfl ?_
        refine aw_iload (pc := 119) C dL_act_119 rfl ?_
        refine aw_iload (pc := 121) C dL_act_121 rfl ?_
        refine aw_iload (pc := 123) C dL_act_123 rfl ?_
        obtain ⟨k_135, hk_135, hw⟩ := jn_out hw
        have J_135 : ∀ (t4_135 : Nat) (h_135 : AH), k_135 t4_135 h_135 → AW G p l e ({ frames := 7, cells := 0, slots := 0, locals := 157 } : Room) s m args below meth c 0 0 (MQ below (QG G (oI Q)) args s 0 0 (frA G)) 135 (eOf [(6, vR a6)]) [vR t4_135, vI r38, vI t0_97, vI x9_60, vI r114] h_135 := by
          intro t4_135 h_135 hw
          rw [hk_135] at hw
          refine aw_aload (pc := 135) C dL_act_135 rfl ?_
          refine aw_callS (pc := 137) (as := [vI x9_60, vI t0_97, vI r38, vR t4_135, vR a6]) C (fun As hA => met_L_change G l As x9_60 t0_97 r38 t4_135 a6 _ _ hA hw) tw719 tw720 tw0 tw721 ⟨rfl, rfl⟩ ⟨by decide, by decide, pd_L_change⟩ ⟨Nat.le_of_ble_eq_true rfl, Nat.le_of_ble_eq_true rfl⟩ ⟨(Nat.le_of_ble_eq_true rfl), (Nat.le_of_ble_eq_true rfl)⟩ (Nat.le_of_ble_eq_true rfl) dL_act_137 rfl (fun v9 h137 hq9 => ?_)
          obtain ⟨r137, rfl, hw⟩ := hq9
          obtain ⟨k_148, hk_148, hw⟩ := jn_out hw
          have J_148 : ∀ (t0_148 : Int) (h_148 : AH), k_148 t0_148 h_148 → AW G p l e ({ frames := 7, cells := 0, slots := 0, locals := 157 } : Room) s m args below meth c 0 0 (MQ below (QG G (oI Q)) args s 0 0 (frA G)) 148 (eOf []) [vI t0_148] h_148 := by
            intro t0_148 h_148 hw
            rw [hk_148] at hw
            obtain ⟨hp9, hw⟩ := hw
            exact aw_zret (pc := 148) C hr dL_act_148 ⟨Nat.le_of_ble_eq_true rfl, Nat.le_of_ble_eq_true rfl⟩ hp9 ⟨_, rfl, hw⟩
          refine aw_icmp_ne (pc := 140) (tgt := 147) C dL_act_140 (by decide) (fun hc9 => ?_) (fun hc9 => ?_)
          · have hw := hw.1 hc9
            refine aw_iconst (pc := 147) C dL_act_147 (i := (0 : Int)) (by decide) ?_
            refine aw_sub [] trivial ?_
            exact J_148 _ _ hw
          · have hw := hw.2 hc9
            refine aw_iconst (pc := 143) C dL_act_143 (i := (1 : Int)) (by decide) ?_
            refine aw_goto (pc := 144) (tgt := 148) C dL_act_144 (by decide) ?_
            refine aw_sub [] trivial ?_
            exact J_148 _ _ hw
        refine aw_if_ne (pc := 125) (tgt := 133) C dL_act_125 (by decide) (fun hc9 => ?_) (fun hc9 => ?_)
        · have hw := hw.1 hc9
          refine aw_aload (pc := 133) C dL_act_133 rfl ?_
          refine aw_sub [(6, vR a6)] ⟨rfl, trivial⟩ ?_
          exact J_135 _ _ hw
        · have hw := hw.2 hc9
          refine aw_aload (pc := 128) C dL_act_128 rfl ?_
          refine aw_goto (pc := 130) (tgt := 135) C dL_act_130 (by decide) ?_
          refine aw_sub [(6, vR a6)] ⟨rfl, trivial⟩ ?_
          exact J_135 _ _ hw
      obtain ⟨k_82, hk_82, hw⟩ := jn_out hw
      have J_82 : ∀  (h_82 : AH), k_82  h_82 → AW G p l e ({ frames := 7, cells := 0, slots := 0, locals := 157 } : Room) s m args below meth c 0 0 (MQ below (QG G (oI Q)) args s 0 0 (frA G)) 82 (eOf [(0, vR a0), (4, vR a4), (5, vR a5), (6, vR a6), (8, vI r38), (9, vI x9_60)]) [] h_82 := by
        intro  h_82 hw
        rw [hk_82] at hw
        refine aw_bipush (pc := 82) C dL_act_82 (i := (32 : Int)) (by decide) ?_
        refine aw_goto (pc := 84) (tgt := 97) C dL_act_84 (by decide) ?_
        refine aw_sub [(0, vR a0), (4, vR a4), (5, vR a5), (6, vR a6), (8, vI r38), (9, vI x9_60)] ⟨rfl, rfl, rfl, rfl, rfl, rfl, trivial⟩ ?_
        exact J_97 _ _ hw
      refine aw_if_eq (pc := 69) (tgt := 82) C dL_act_69 (by decide) (fun hc9 => ?_) (fun hc9 => ?_)
      · have hw := hw.1 hc9
        refine aw_sub [(0, vR a0), (4, vR a4), (5, vR a5), (6, vR a6), (8, vI r38), (9, vI x9_60)] ⟨rfl, rfl, rfl, rfl, rfl, rfl, trivial⟩ ?_
        exact J_82  _ hw
      · have hw := hw.2 hc9
        refine aw_aload (pc := 72) C dL_act_72 rfl ?_
        refine aw_iload (pc := 74) C dL_act_74 rfl ?_
        obtain ⟨⟨k9, hp9⟩, hw⟩ := hw
        refine aw_iald (pc := 76) C dL_act_76 hp9 ?_
        refine aw_bipush (pc := 77) C dL_act_77 (i := (8 : Int)) (by decide) ?_
        refine aw_icmp_ne (pc := 79) (tgt := 87) C dL_act_79 (by decide) (fun hc9 => ?_) (fun hc9 => ?_)
        · have hw := hw.1 hc9
          refine aw_bipush (pc := 87) C dL_act_87 (i := (97 : Int)) (by decide) ?_
          refine aw_iload_n (pc := 89) C dL_act_89 rfl rfl ?_
          refine aw_iconst (pc := 90) C dL_act_90 (i := (5 : Int)) (by decide) ?_
          obtain ⟨hp9, hw⟩ := hw
          refine aw_ishr (pc := 91) C dL_act_91 hp9 ?_
          refine aw_iconst (pc := 92) C dL_act_92 (i := (5 : Int)) (by decide) ?_
          refine aw_callS (pc := 93) (as := [vI (a3 / (2 : Int) ^ ((5 : Int)).toNat), vI (5 : Int)]) C (fun As hA => met_L_at G l As (a3 / (2 : Int) ^ ((5 : Int)).toNat) (5 : Int) _ _ hA hw) tw447 tw448 tw0 tw449 ⟨rfl, rfl⟩ ⟨by decide, by decide, pd_L_at⟩ ⟨Nat.le_of_ble_eq_true rfl, Nat.le_of_ble_eq_true rfl⟩ ⟨(Nat.le_of_ble_eq_true rfl), (Nat.le_of_ble_eq_true rfl)⟩ (Nat.le_of_ble_eq_true rfl) dL_act_93 rfl (fun v9 h93 hq9 => ?_)
          obtain ⟨r93, rfl, hw⟩ := hq9
          obtain ⟨hp9, hw⟩ := hw
          refine aw_iadd (pc := 96) C dL_act_96 hp9 ?_
          refine aw_sub [(0, vR a0), (4, vR a4), (5, vR a5), (6, vR a6), (8, vI r38), (9, vI x9_60)] ⟨rfl, rfl, rfl, rfl, rfl, rfl, trivial⟩ ?_
          exact J_97 _ _ hw
        · have hw := hw.2 hc9
          refine aw_sub [(0, vR a0), (4, vR a4), (5, vR a5), (6, vR a6), (8, vI r38), (9, vI x9_60)] ⟨rfl, rfl, rfl, rfl, rfl, rfl, trivial⟩ ?_
          exact J_82  _ hw
  · have hw := hw.2 hc9
    refine aw_aload_n (pc := 5) C dL_act_5 rfl rfl ?_
    refine aw_iload_n (pc := 6) C dL_act_6 rfl rfl ?_
    refine aw_iconst (pc := 7) C dL_act_7 (i := (2 : Int)) (by decide) ?_
    obtain ⟨hp9, hw⟩ := hw
    refine aw_irem (pc := 8) C dL_act_8 hp9 ?_
    refine aw_iload_n (pc := 9) C dL_act_9 rfl rfl ?_
    refine aw_iload_n (pc := 10) C dL_act_10 rfl rfl ?_
    refine aw_iload_n (pc := 11) C dL_act_11 rfl rfl ?_
    refine aw_iconst (pc := 12) C dL_act_12 (i := (2 : Int)) (by decide) ?_
    obtain ⟨hp9, hw⟩ := hw
    refine aw_irem (pc := 13) C dL_act_13 hp9 ?_
    obtain ⟨k_24, hk_24, hw⟩ := jn_out hw
    have J_24 : ∀ (t4_24 : Nat) (h_24 : AH), k_24 t4_24 h_24 → AW G p l e ({ frames := 7, cells := 0, slots := 0, locals := 157 } : Room) s m args below meth c 0 0 (MQ below (QG G (oI Q)) args s 0 0 (frA G)) 24 (eOf [(6, vR a6)]) [vR t4_24, vI a3, vI a2, vI (a1 % (2 : Int)), vR a0] h_24 := by
      intro t4_24 h_24 hw
      rw [hk_24] at hw
      refine aw_aload (pc := 24) C dL_act_24 rfl ?_
      refine aw_callS (pc := 26) (as := [vR a0, vI (a1 % (2 : Int)), vI a2, vI a3, vR t4_24, vR a6]) C (fun As hA => met_L_load G l As a0 (a1 % (2 : Int)) a2 a3 t4_24 a6 _ _ hA hw) tw640 tw641 tw0 tw642 ⟨rfl, rfl⟩ ⟨by decide, by decide, pd_L_load⟩ ⟨Nat.le_of_ble_eq_true rfl, Nat.le_of_ble_eq_true rfl⟩ ⟨(Nat.le_of_ble_eq_true rfl), (Nat.le_of_ble_eq_true rfl)⟩ (Nat.le_of_ble_eq_true rfl) dL_act_26 rfl (fun v9 h26 hq9 => ?_)
      obtain ⟨r26, rfl, hw⟩ := hq9
      obtain ⟨hp9, hw⟩ := hw
      exact aw_zret (pc := 29) C hr dL_act_29 ⟨Nat.le_of_ble_eq_true rfl, Nat.le_of_ble_eq_true rfl⟩ hp9 ⟨_, rfl, hw⟩
    refine aw_if_ne (pc := 14) (tgt := 22) C dL_act_14 (by decide) (fun hc9 => ?_) (fun hc9 => ?_)
    · have hw := hw.1 hc9
      refine aw_aload (pc := 22) C dL_act_22 rfl ?_
      refine aw_sub [(6, vR a6)] ⟨rfl, trivial⟩ ?_
      exact J_24 _ _ hw
    · have hw := hw.2 hc9
      refine aw_aload (pc := 17) C dL_act_17 rfl ?_
      refine aw_goto (pc := 19) (tgt := 24) C dL_act_19 (by decide) ?_
      refine aw_sub [(6, vR a6)] ⟨rfl, trivial⟩ ?_
      exact J_24 _ _ hw
