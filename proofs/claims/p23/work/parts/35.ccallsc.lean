/-! THE PURE LAYER, 19: the class's calls, three -/
def dUndo (D : DT) : DT := (D.2.1 (D.2.2.1 - 1), D.2.1, D.2.2.1 - 1, D.2.2.2)
def dApp (D : DT) (c : Int) : DT := (D.1, D.2.1, D.2.2.1, un D.2.2.2.1 D.2.2.2.2 c, D.2.2.2.2 + 1)
def dClr (D : DT) : DT := (D.1, D.2.1, D.2.2.1, D.2.2.2.1, 0)
/-- another buffer -/
theorem CR.buf {h h' : AH} {zz : Nat → Nat} {x : Nat} {D : DT} {buf : Nat → Int} {len : Nat} (C : CR h zz x D) (F : Fr h h' (x + 62) (x + 65)) (B : BR h' (x + 62) buf len) : CR h' zz x (D.1, D.2.1, D.2.2.1, buf, len) := by
  obtain ⟨T, Z, ⟨t0, t1, S⟩, G, -, n1, n2, ⟨pm, V⟩, W⟩ := C
  have lo := T.2.2.2.2.2.2.2.2.1
  refine ⟨T.fr F, Z.fr F (by omega), ⟨t0, t1, S.fr F (by omega)⟩, G, B, by rw [F.fi (by omega)]; exact n1, n2, ⟨pm, V.fr n2 F (by omega)⟩, ?_⟩
  rw [F.fi (by omega)]
  rcases W with W | ⟨w1, FF, W⟩
  · exact .inl W
  · exact .inr ⟨w1, FF, W.fr F (by omega)⟩
theorem c_append {zz : Nat → Nat} {x : Nat} {c : Int} {h : AH} {Q : Int → AH → Prop} {X : String → AH → Prop} {D : DT} (C : CR h zz x D) (q : (33 ≤ c ∧ c ≤ 126) → D.2.2.2.2 < 60 → ∀ h' : AH, Ga h h' x (x + 113) → CR h' zz x (dApp D c) → Q ((D.2.2.2.2 + 1 : Nat) : Int) h') (q1 : ¬ (33 ≤ c ∧ c ≤ 126) → ∀ k : Nat, X "java/lang/IllegalArgumentException" (nGb h k)) (q2 : (33 ≤ c ∧ c ≤ 126) → ¬ D.2.2.2.2 < 60 → ∀ k : Nat, X "java/lang/IllegalStateException" (nGb h k)) : w_X6_append zz x c h Q X := by
  have C0 := C
  obtain ⟨T, Z, ⟨t0, t1, S⟩, G, B, n1, n2, ⟨pm, V⟩, W⟩ := C
  have lo := T.2.2.2.2.2.2.2.2.1
  have f5 := T.2.2.2.2.2.2.1
  have tk := T.1
  obtain ⟨k0, k1, k2, r0, r1, lo2⟩ := T.2.2.2.2.2.2.2.2.2.1
  obtain ⟨b1, b2, b3⟩ := B
  unfold w_X6_append
  rw [jn_def]
  refine ⟨fun h1 => ⟨Nat.le_refl _, q1 (by omega)⟩, fun h1 => ⟨fun h2 => ?_, fun h2 => ⟨Nat.le_refl _, q1 (by omega)⟩⟩⟩
  have i1 : inR ((D.2.2.2.2 : Int) + 1) := by unfold inR; omega
  simp only [hkd_sfI, hkd_sfR, hkd_sfL, hkd_saI, hkd_saR, hkd_saL, hkd_nGb, hlo_sfI, hlo_sfR, hlo_sfL, hlo_saI, hlo_saR, hlo_saL, hlo_nGb, hfR_sfI, hfR_sfL, hfR_saI, hfR_saR, hfR_saL, hfR_nGb, hfI_sfR, hfI_sfL, hfI_saI, hfI_saR, hfI_saL, hfI_nGb, haI_sfI, haI_sfR, haI_sfL, haI_saR, haI_saL, haI_nGb, haR_sfI, haR_sfR, haR_saI, haR_nGb, haL_sfI, haL_saI, hfL_sfI, hfL_saI, hfI_sfI, hfR_sfR, hfL_sfL, haI_saI, haR_saR, haL_saL, okA, okP, okI, okW, okJ, okV, okQ, okU, okC, jn_def, pair_ex, some_ex, forall_eq, Nat.add_left_cancel_iff, Nat.reduceEqDiff, Nat.add_eq_left, Nat.left_eq_add, if_true, if_false, Nat.reduceAdd, true_and, and_true, Nat.one_ne_zero, Nat.succ_ne_self, f5, tk, k0, k1, k2, r0, r1, b1, i1]
  refine ⟨fun h3 => ⟨⟨by omega, by omega, by omega⟩, by omega, ?_⟩, fun h3 => ⟨Nat.le_refl _, q2 (by omega) (by omega)⟩⟩
  have F2 : Fr h (sfI (saI h (x + 62 + 1) (u1 (haI h (x + 62 + 1)) (D.2.2.2.2 : Int) c)) (x + 62) 2 ((D.2.2.2.2 : Int) + 1)) (x + 62) (x + 65) := (Fr.sa (by omega) (by omega)).tsf (by omega) (by omega)
  have q' := q (by omega) (by omega) _ (F2.ga (by omega) (by omega)) (C0.buf F2 ⟨?_, ?_, fun k hk => ?_⟩)
  · exact q'
  · rw [hfI_sfI, if_pos rfl, if_pos rfl]; omega
  · omega
  · rw [haI_sfI, haI_saI, if_pos rfl, u1_apply]
    by_cases e : k = D.2.2.2.2
    · subst e; rw [if_pos rfl, un_s]
    · rw [if_neg (by omega), un_n e]; exact b3 k (by omega)
theorem c_clear {zz : Nat → Nat} {x : Nat} {h : AH} {Q : Int → AH → Prop} {D : DT} (C : CR h zz x D) (q : ∀ h' : AH, Ga h h' x (x + 113) → CR h' zz x (dClr D) → Q (D.2.2.2.2 : Int) h') : w_X6_clearBuffer zz x h Q := by
  have C0 := C
  obtain ⟨T, Z, ⟨t0, t1, S⟩, G, B, n1, n2, ⟨pm, V⟩, W⟩ := C
  have lo := T.2.2.2.2.2.2.2.2.1
  have f5 := T.2.2.2.2.2.2.1
  have tk := T.1
  obtain ⟨k0, k1, k2, r0, r1, lo2⟩ := T.2.2.2.2.2.2.2.2.2.1
  obtain ⟨b1, b2, b3⟩ := B
  unfold w_X6_clearBuffer
  simp only [okA, okP, some_ex, forall_eq, Nat.add_left_cancel_iff, Nat.reduceEqDiff, Nat.add_eq_left, Nat.left_eq_add, if_true, if_false, Nat.reduceAdd, true_and, and_true, Nat.one_ne_zero, Nat.succ_ne_self, f5, tk, k0, b1]
  refine ⟨lo2, ?_⟩
  have F2 : Fr h (sfI h (x + 62) 2 0) (x + 62) (x + 65) := Fr.sf (by omega) (by omega)
  exact q _ (F2.ga (by omega) (by omega)) (C0.buf F2 ⟨by rw [hfI_sfI, if_pos rfl, if_pos rfl]; rfl, by omega, fun k hk => by omega⟩)
theorem c_firstError {zz : Nat → Nat} {x : Nat} {h : AH} {Q : Int → AH → Prop} {D : DT} (C : CR h zz x D) (q : ∀ h' : AH, Ga h h' x (x + 113) → CR h' zz x D → Q (rE D.2.2.2.1 D.2.2.2.2 : Int) h') : w_X6_firstError zz x h Q := by
  have C0 := C
  obtain ⟨T, Z, ⟨t0, t1, S⟩, G, B, n1, n2, ⟨pm, V⟩, W⟩ := C
  unfold w_X6_firstError
  refine ⟨by rw [okA_of T.1], x + 62, T.2.2.2.2.2.2.1, by rw [okA_of T.2.2.2.2.2.2.2.2.2.1.1], m_read T.2.2.2.2.2.2.2.2.2.1 B (fun g F1 _ => ?_)⟩
  exact q g (F1.ga (by omega) (by omega)) (C0.fr F1 (by omega))
def dSwap (D : DT) : DT := ((D.1.2.1, D.1.1, D.1.2.2), (dsv D).2)
theorem c_swap {zz : Nat → Nat} {x : Nat} {h : AH} {Q : Int → AH → Prop} {D : DT} (C : CR h zz x D) (q : ∀ (F : Nat) (h' : AH), Ga h h' x (x + 113) → CR h' zz x (dSwap D) → isFF D.1.2.1 D.1.1 D.1.2.2 F → Q (nFr D.1.2.1 D.1.1 D.1.2.2 F) h') : w_X6_swap zz x h Q := by
  unfold w_X6_swap
  refine ⟨by rw [okA_of C.1.1], m_save C (fun g Gg Cg y7 _ => ?_)⟩
  have Cg0 := Cg
  obtain ⟨T, Z, ⟨t0, t1, S⟩, G, B, n1, n2, ⟨pm, V⟩, W⟩ := Cg
  rw [dsv_1] at S G
  have lo := T.2.2.2.2.2.2.2.2.1
  obtain ⟨⟨a0, a1, a2, a3, a4, a5, a6⟩, U0, U1, U2⟩ := S
  refine ⟨by rw [okA_of T.1], x + 1, T.2.1, by rw [okA_of a0], ?_⟩
  unfold w_X4_exchangeTexts
  refine ⟨by rw [okA_of a0], t0, a3, by rw [okA_of a0], t1, a4, by rw [okP_of a0]; exact ⟨rfl, by omega⟩, ?_⟩
  intro g1 e1
  refine ⟨by rw [e1, okP_of (show hkd (sfR g _ _ _) (x + 1) = _ from a0)]; exact ⟨rfl, by show hlo g ≤ _; omega⟩, ?_⟩
  intro g2 e2
  have eh : hkd g2 = hkd g := by rw [e2, e1]; rfl
  have el : hlo g2 = hlo g := by rw [e2, e1]; rfl
  have ea : haI g2 = haI g := by rw [e2, e1]; rfl
  have ei : hfI g2 = hfI g := by rw [e2, e1]; rfl
  have eA : haR g2 = haR g := by rw [e2, e1]; rfl
  have er : ∀ r, r ≠ x + 1 → hfR g2 r = hfR g r := fun r hr => by
    rw [e2, e1]
    show u0 (u0 (hfR g) (x + 1) _) (x + 1) _ r = _
    rw [u0_n hr, u0_n hr]
  have GG : Ga g g2 x (x + 113) := by
    rw [e2, e1]; exact (Ga.sfR (by omega) (by omega)).trans (Ga.sfR (by omega) (by omega))
  have T2 := T.cong eh el er
  have tx : ∀ t c, Tx g t c → t ≠ x + 1 → Tx g2 t c := fun t c Ux ht => ⟨Ux.1.cong eh el (er t ht), by rw [ea]; exact Ux.2.1, by rw [ei]; exact Ux.2.2.1, by rw [ea]; exact Ux.2.2.2⟩
  have S2 : St g2 (x + 1) t1 t0 D.1.2.1 D.1.1 D.1.2.2 := by
    refine ⟨⟨by rw [eh]; exact a0, by rw [eh]; exact a1, ?_, ?_, ?_, by rw [el]; exact a5, by omega⟩, tx _ _ U1 (by omega), tx _ _ U0 (by omega), fun k hk => by rw [ea]; exact U2 k hk⟩
    · rw [e2, e1, hfR_sfR, if_pos rfl, if_neg (by omega), hfR_sfR, if_pos rfl, if_neg (by omega)]; exact a2
    · rw [e2, e1, hfR_sfR, if_pos rfl, if_neg (by omega), hfR_sfR, if_pos rfl, if_pos rfl]
    · rw [e2, hfR_sfR, if_pos rfl, if_pos rfl]
  have stm : ∀ s u0 u1 a b c, St g s u0 u1 a b c → x + 9 ≤ s → St g2 s u0 u1 a b c := by
    intro s u0 u1 a b c Sx hs
    obtain ⟨s1, s2, s3, s4⟩ := Sx
    have hp := s1.2.2.2.2.2.2
    exact ⟨s1.cong eh el (er _ (by omega)), tx _ _ s2 (by omega), tx _ _ s3 (by omega), fun k hk => by rw [ea]; exact s4 k hk⟩
  have C2 : CR g2 zz x (dSwap D) := by
    refine ⟨T2, Z.cong eh el (fun q _ => by rw [ea]), ⟨t1, t0, S2⟩, ⟨G.2.1, G.1, G.2.2⟩, ⟨by rw [ei]; exact B.1, B.2.1, fun k hk => by rw [ea]; exact B.2.2 k hk⟩, by rw [ei]; exact n1, n2, ⟨pm, fun i hi => by rw [eA]; exact V.1 i hi, V.2.1, fun i hi => ⟨stm _ _ _ _ _ _ (V.2.2 i hi).1 (by omega), (V.2.2 i hi).2⟩⟩, .inl (by rw [ei]; exact y7)⟩
  refine ⟨by rw [okA_of T2.1], m_refresh C2 (fun F g3 G3 C3 => ?_)⟩
  obtain ⟨C3, u0, u1, A3⟩ := C3
  refine ⟨by rw [okA_of C3.1.1], x + 9, C3.1.2.2.1, by rw [okA_of A3.2.2.2.1.1], m_frames A3 ?_⟩
  exact q F g3 ((Gg.trans GG).trans G3) C3 A3.2.2.2.2.1.2.2.2.2.2.2
