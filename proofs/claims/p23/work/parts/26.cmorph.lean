/-! THE PURE LAYER, 10: the class's Morph, at s + 8: its work -/
def MoK (h : AH) (s : Nat) : Prop := hkd h (s + 8) = (5, 0) ∧ hkd h (s + 9) = (1, 40) ∧ hkd h (s + 10) = (1, 40) ∧ hkd h (s + 11) = (1, 80) ∧ hkd h (s + 12) = (1, 80) ∧ hkd h (s + 13) = (1, 80) ∧ hfR h (s + 8) 0 = some (s + 14) ∧ hfR h (s + 8) 1 = some (s + 21) ∧ hfR h (s + 8) 2 = some s ∧ hfR h (s + 8) 3 = some (s + 9) ∧ hfR h (s + 8) 4 = some (s + 10) ∧ hfR h (s + 8) 5 = some (s + 11) ∧ hfR h (s + 8) 6 = some (s + 12) ∧ hfR h (s + 8) 7 = some (s + 13)
theorem MoK.fr {h h' : AH} {a b s : Nat} (T : MoK h s) (F : Fr h h' a b) : MoK h' s := by
  unfold MoK at *; rw [F.kd, F.rf]; exact T
abbrev kfA (c0 c1 st : Nat → Int) : Nat → Int := (prA c0 c1 st).2.2.1
abbrev ksA (c0 c1 st : Nat → Int) : Nat → Int := (prA c0 c1 st).2.2.2
abbrev glM (c0 c1 st : Nat → Int) : Nat → Int := glA c1 (prA c0 c1 st)
abbrev s0M (c0 : Nat → Int) : Nat → Int := fun k => (Lc c0 k : Int)
/-- the frames without moving behind the first; the frames of moving -/
def sti (c0 c1 st : Nat → Int) : Int := st 6 + (cK (kfA c0 c1 st) (Nc c0) 4 : Int)
def isFF (c0 c1 st : Nat → Int) (F : Nat) : Prop := isF (Nc c0) (glM c0 c1 st) (s0M c0) (st 4) (st 5) (if 0 < cK (kfA c0 c1 st) (Nc c0) 3 then 1 else 0) F ∧ F ≤ 190
def gonA (c0 c1 st : Nat → Int) (k : Nat) : Int := st 6 + ((cK (kfA c0 c1 st) (Nc c0) 4 : Int) - (cK (kfA c0 c1 st) k 4 : Int))
def theA (c0 c1 st : Nat → Int) (F l : Nat) : Int := sti c0 c1 st + (F : Int) + (cK (ksA c0 c1 st) (l + 1) 5 : Int)
def WR (h : AH) (s : Nat) (c0 c1 st : Nat → Int) (F : Nat) : Prop := PR h s (prA c0 c1 st) ∧ PO h s (Nc c0) (Nc c1) (prA c0 c1 st) ∧ MR h s F (Nc c0) (glM c0 c1 st) (s0M c0) (st 4) (st 5) ∧ hfI h (s + 8) 8 = sti c0 c1 st ∧ (∀ k : Nat, k < Nc c0 → kfA c0 c1 st k = 4 → haI h (s + 9) k = gonA c0 c1 st k) ∧ (∀ l : Nat, l < Nc c1 → ksA c0 c1 st l = 5 → haI h (s + 10) l = theA c0 c1 st F l) ∧ isFF c0 c1 st F
theorem WR.fr {h h' : AH} {a b s F : Nat} {c0 c1 st : Nat → Int} (W : WR h s c0 c1 st F) (Z : Fr h h' a b) (hr : b ≤ s + 8 ∨ s + 30 ≤ a ∨ s + 11 ≤ a ∧ b ≤ s + 14) : WR h' s c0 c1 st F := by
  obtain ⟨W1, W2, W3, W4, W5, W6, W7⟩ := W
  refine ⟨W1.fr Z (by omega), W2.fr Z (by omega), W3.fr Z (by omega), by rw [Z.fi (by omega)]; exact W4, fun k hk e => by rw [Z.ai (by omega)]; exact W5 k hk e, fun l hl e => by rw [Z.ai (by omega)]; exact W6 l hl e, W7⟩
theorem cK_mono {f : Nat → Int} {v : Int} {m n : Nat} (h : m ≤ n) : cK f m v ≤ cK f n v := by
  induction n with
  | zero => rw [show m = 0 by omega]; exact Nat.le_refl _
  | succ n ih =>
    by_cases e : m = n + 1
    · rw [e]; exact Nat.le_refl _
    · rw [cK_s]; have := ih (by omega); omega
set_option maxHeartbeats 2000000 in
theorem m_work {zz : Nat → Nat} {s t0 t1 : Nat} {h : AH} {Q : AH → Prop} {c0 c1 st : Nat → Int} (S : St h s t0 t1 c0 c1 st) (P : PK h s) (M : MvK h s) (X : MoK h s) (hst : GS st) (h0 : Nc c0 ≤ 40) (h1 : Nc c1 ≤ 40) (q : ∀ (F : Nat) (h' : AH), Fr h h' (s + 8) (s + 30) → WR h' s c0 c1 st F → Q h') : w_X1_work zz (s + 8) h Q := by
  have lo := S.1.2.2.2.2.2.1
  have hst6 := hst.2.2.2.2.2.2.1
  unfold w_X1_work
  refine ⟨by rw [okA_of X.1], s + 14, X.2.2.2.2.2.2.1, by rw [okA_of P.1], ?_⟩
  refine m_pwork S P hst h0 h1 (fun ha Fa Ra Oa => ?_)
  have Sa := S.fr Fa (by omega)
  have Pa := P.fr Fa
  have Ma := M.fr Fa
  have Xa := X.fr Fa
  refine ⟨by rw [okA_of Xa.1], s + 21, Xa.2.2.2.2.2.2.2.1, by rw [okA_of Ma.1], ?_⟩
  refine m_mwork Sa Pa Ma Ra Oa pw_A hst h0 h1 (fun F hb Fb iF hF Rb => ?_)
  have Fab : Fr h hb (s + 8) (s + 30) := (Fa.wide (by omega) (by omega)).trans (Fb.wide (by omega) (by omega))
  have Sb := S.fr Fab (by omega)
  have Pb := P.fr Fab
  have Mb := M.fr Fab
  have Xb := X.fr Fab
  have RRb := Ra.fr Fb (by omega)
  have OOb := Oa.fr Fb (by omega)
  clear Fa Ra Oa Sa Pa Ma Xa Fb
  have S9 := Sb
  obtain ⟨⟨a0, a1, a2, a3, a4, a5, a6⟩, ⟨⟨b0, b1, b2, b3, b4, b5⟩, b6, b7, b8⟩, ⟨⟨d0, d1, d2, d3, d4, d5⟩, d6, d7, d8⟩, a9⟩ := Sb
  obtain ⟨p0, p1, p2, p3, p4, p5, p6, q0, q1, q2, q3, q4, q5, q6⟩ := Pb
  obtain ⟨k0, k1, k2, k3, k4, k5, g0, g1, g2, g3, g4, g5, g6, g7⟩ := Xb
  have z6 : haI hb (s + 1) (6 : Int) = st 6 := a9 6 (by omega)
  have o4 := OOb.2.2.2.1
  have cb := cK_le (f := kfA c0 c1 st) (n := Nc c0) (v := 4)
  have l8 : hlo hb ≤ s + 8 := by omega
  have i1 : (0 : Int) ≤ 6 := by omega
  have i2 : (6 : Int) < ((8 : Nat) : Int) := by omega
  have i3 : (0 : Int) ≤ 4 := by omega
  have i4 : (4 : Int) < ((6 : Nat) : Int) := by omega
  have i5 : inR (st 6 + (cK (kfA c0 c1 st) (Nc c0) 4 : Int)) := by unfold inR; omega
  have i6 : inR ((Nc c0 : Int) - 1) := by unfold inR; omega
  have nt8 : ¬ (t0 = s + 8) := by omega
  simp only [txt0, hkd_sfI, hkd_sfR, hkd_sfL, hkd_saI, hkd_saR, hkd_saL, hkd_nGb, hlo_sfI, hlo_sfR, hlo_sfL, hlo_saI, hlo_saR, hlo_saL, hlo_nGb, hfR_sfI, hfR_sfL, hfR_saI, hfR_saR, hfR_saL, hfR_nGb, hfI_sfR, hfI_sfL, hfI_saI, hfI_saR, hfI_saL, hfI_nGb, haI_sfI, haI_sfR, haI_sfL, haI_saR, haI_saL, haI_nGb, haR_sfI, haR_sfR, haR_saI, haR_nGb, haL_sfI, haL_saI, hfL_sfI, hfL_saI, hfI_sfI, hfR_sfR, hfL_sfL, haI_saI, haR_saR, haL_saL, okA, okI, okP, pair_ex, some_ex, forall_eq, a0, a1, a2, a3, a4, b0, b1, b2, b3, b4, b7, d0, d1, d2, d3, d4, d7, p0, p1, p2, p3, p4, p5, p6, q0, q1, q2, q3, q4, q5, q6, k0, k1, k2, k3, k4, k5, g0, g1, g2, g3, g4, g5, g6, g7, Nat.add_left_cancel_iff, Nat.reduceEqDiff, Nat.add_eq_left, Nat.left_eq_add, if_true, if_false, Nat.reduceAdd, true_and, and_true, Nat.one_ne_zero, Nat.succ_ne_self, nt8, z6, o4, l8, i1, i2, i3, i4, i5, i6]
  generalize hgc : sfI hb (s + 8) 8 (st 6 + (cK (kfA c0 c1 st) (Nc c0) 4 : Int)) = gc
  have Fc : Fr hb gc (s + 8) (s + 9) := by rw [← hgc]; exact Fr.sf (by omega) (by omega)
  have yc : hfI gc (s + 8) 8 = sti c0 c1 st := by rw [← hgc, hfI_sfI, if_pos rfl, if_pos rfl]; rfl
  have Fac := Fab.trans (Fc.wide (a' := s + 8) (b' := s + 30) (by omega) (by omega))
  have Rc := Rb.fr Fc (by omega)
  have RRc := RRb.fr Fc (by omega)
  have OOc := OOb.fr Fc (by omega)
  clear hgc
  obtain ⟨I, hI⟩ : ∃ I : Nat → Int → Int → AH → Prop, ∀ m x1 x2 h', I m x1 x2 h' ↔ ∃ r : Nat, r ≤ Nc c0 ∧ m = r ∧ x2 = (r : Int) - 1 ∧ x1 = st 6 + ((cK (kfA c0 c1 st) (Nc c0) 4 : Int) - (cK (kfA c0 c1 st) r 4 : Int)) ∧ Fr gc h' (s + 9) (s + 10) ∧ ∀ k : Nat, r ≤ k → k < Nc c0 → kfA c0 c1 st k = 4 → haI h' (s + 9) k = gonA c0 c1 st k := ⟨_, fun _ _ _ _ => Iff.rfl⟩
  refine ⟨I, ⟨_, (hI _ _ _ _).mpr ⟨Nc c0, by omega, rfl, rfl, by omega, Fr.refl _ _ _, fun k h1 h2 => by omega⟩⟩, ?_⟩
  intro m x1 x2 h' hi9
  obtain ⟨r, hr, em, rfl, rfl, F2, D⟩ := (hI _ _ _ _).mp hi9
  have Fh' := Fac.trans (F2.wide (a' := s + 8) (b' := s + 30) (by omega) (by omega))
  have S2 := S.fr Fh' (by omega)
  have P2 := P.fr Fh'
  have M2 := M.fr Fh'
  have X2 := X.fr Fh'
  have R2 := Rc.fr F2 (by omega)
  have RR2 := RRc.fr F2 (by omega)
  have OO2 := OOc.fr F2 (by omega)
  have y2 : hfI h' (s + 8) 8 = sti c0 c1 st := by rw [F2.fi (by omega)]; exact yc
  have cr := cK_mono (f := kfA c0 c1 st) (v := 4) hr
  have lo2 : hlo h' ≤ s := S2.1.2.2.2.2.2.1
  clear a0 a1 a2 a3 a4 a5 a6 a9 b0 b1 b2 b3 b4 b5 b6 b7 b8 d0 d1 d2 d3 d4 d5 d6 d7 d8 p0 p1 p2 p3 p4 p5 p6 q0 q1 q2 q3 q4 q5 q6 k0 k1 k2 k3 k4 k5 g0 g1 g2 g3 g4 g5 g6 g7
  have S3 := S2
  obtain ⟨⟨a0, a1, a2, a3, a4, a5, a6⟩, ⟨⟨b0, b1, b2, b3, b4, b5⟩, b6, b7, b8⟩, ⟨⟨d0, d1, d2, d3, d4, d5⟩, d6, d7, d8⟩, a9⟩ := S2
  obtain ⟨p0, p1, p2, p3, p4, p5, p6, q0, q1, q2, q3, q4, q5, q6⟩ := P2
  obtain ⟨v0, v1, v2, v3, v4, v5, v6, v7, v8, w0, w1, w2, w3, w4, w5, w6, w7, w8, w9⟩ := M2
  obtain ⟨k0, k1, k2, k3, k4, k5, g0, g1, g2, g3, g4, g5, g6, g7⟩ := X2
  have y3 := R2.1
  have i7 : inR (sti c0 c1 st + (F : Int)) := by unfold inR sti; omega
  refine ⟨fun hc => ?_, fun hc => ?_⟩
  · obtain rfl : r = 0 := by omega
    simp only [okA, pair_ex, some_ex, forall_eq, k0, k1, k2, k3, k4, k5, g0, g1, g2, g3, g4, g5, g6, g7, v0, v1, v2, v3, v4, v5, v6, v7, v8, w0, w1, w2, w3, w4, w5, w6, w7, w8, w9, Nat.add_left_cancel_iff, Nat.reduceEqDiff, Nat.add_eq_left, Nat.left_eq_add, if_true, if_false, Nat.reduceAdd, true_and, and_true, Nat.one_ne_zero, Nat.succ_ne_self, y2, y3, i7]
    obtain ⟨J, hJ⟩ : ∃ J : Nat → Int → Int → AH → Prop, ∀ m x1 x2 g, J m x1 x2 g ↔ ∃ l : Nat, l ≤ Nc c1 ∧ m = Nc c1 - l ∧ x2 = (l : Int) ∧ x1 = sti c0 c1 st + (F : Int) + (cK (ksA c0 c1 st) l 5 : Int) ∧ Fr h' g (s + 10) (s + 11) ∧ ∀ k : Nat, k < l → ksA c0 c1 st k = 5 → haI g (s + 10) k = theA c0 c1 st F k := ⟨_, fun _ _ _ _ => Iff.rfl⟩
    refine ⟨J, ⟨_, (hJ _ _ _ _).mpr ⟨0, by omega, rfl, rfl, by unfold cK; omega, Fr.refl _ _ _, fun k h1 => by omega⟩⟩, ?_⟩
    intro m z1 z2 g hj9
    obtain ⟨l, hl, rfl, rfl, rfl, F3, E⟩ := (hJ _ _ _ _).mp hj9
    have Fg := Fh'.trans (F3.wide (a' := s + 8) (b' := s + 30) (by omega) (by omega))
    have S4 := S.fr Fg (by omega)
    have P4 := P.fr Fg
    have X4 := X.fr Fg
    have RR4 := RR2.fr F3 (by omega)
    have lo4 : hlo g ≤ s := S4.1.2.2.2.2.2.1
    clear a0 a1 a2 a3 a4 a5 a6 a9 b0 b1 b2 b3 b4 b5 b6 b7 b8 d0 d1 d2 d3 d4 d5 d6 d7 d8 p0 p1 p2 p3 p4 p5 p6 q0 q1 q2 q3 q4 q5 q6 k0 k1 k2 k3 k4 k5 g0 g1 g2 g3 g4 g5 g6 g7
    obtain ⟨⟨a0, a1, a2, a3, a4, a5, a6⟩, ⟨⟨b0, b1, b2, b3, b4, b5⟩, b6, b7, b8⟩, ⟨⟨d0, d1, d2, d3, d4, d5⟩, d6, d7, d8⟩, a9⟩ := S4
    obtain ⟨p0, p1, p2, p3, p4, p5, p6, q0, q1, q2, q3, q4, q5, q6⟩ := P4
    obtain ⟨k0, k1, k2, k3, k4, k5, g0, g1, g2, g3, g4, g5, g6, g7⟩ := X4
    have cl := cK_le (f := ksA c0 c1 st) (n := l) (v := 5)
    have cs := cK_s (f := ksA c0 c1 st) (n := l) (v := 5)
    simp only [txt1, okA, okI, jn_def, pair_ex, some_ex, forall_eq, a0, a1, a2, a3, a4, b0, b1, b2, b3, b4, b7, d0, d1, d2, d3, d4, d7, p0, p1, p2, p3, p4, p5, p6, q0, q1, q2, q3, q4, q5, q6, k0, k1, k2, k3, k4, k5, g0, g1, g2, g3, g4, g5, g6, g7, Nat.add_left_cancel_iff, Nat.reduceEqDiff, Nat.add_eq_left, Nat.left_eq_add, if_true, if_false, Nat.reduceAdd, true_and, and_true, Nat.one_ne_zero, Nat.succ_ne_self]
    refine ⟨fun hc2 => ?_, fun hc2 => ?_⟩
    · obtain rfl : l = Nc c1 := by omega
      refine q F g Fg ⟨RR4, OO2.fr F3 (by omega), R2.fr F3 (by omega), by rw [F3.fi (by omega)]; exact y2, fun k hk e => by rw [F3.ai (by omega)]; exact D k (by omega) hk e, fun k hk e => E k hk e, iF, hF⟩
    · have hl9 : l < Nc c1 := by omega
      have ek := (RR4 l (by omega)).2.2.2
      have w1 : (0 : Int) ≤ (l : Int) := by omega
      have w2 : (l : Int) < ((40 : Nat) : Int) := by omega
      have w3 : inR ((l : Int) + 1) := by unfold inR; omega
      have w4 : inR (sti c0 c1 st + (F : Int) + (cK (ksA c0 c1 st) l 5 : Int) + 1) := by unfold inR sti; omega
      have w5 : hlo g ≤ s + 10 := by omega
      simp only [okA, okW, pair_ex, some_ex, forall_eq, hkd_sfI, hkd_sfR, hkd_sfL, hkd_saI, hkd_saR, hkd_saL, hkd_nGb, hlo_sfI, hlo_sfR, hlo_sfL, hlo_saI, hlo_saR, hlo_saL, hlo_nGb, hfR_sfI, hfR_sfL, hfR_saI, hfR_saR, hfR_saL, hfR_nGb, hfI_sfR, hfI_sfL, hfI_saI, hfI_saR, hfI_saL, hfI_nGb, haI_sfI, haI_sfR, haI_sfL, haI_saR, haI_saL, haI_nGb, haR_sfI, haR_sfR, haR_saI, haR_nGb, haL_sfI, haL_saI, hfL_sfI, hfL_saI, hfI_sfI, hfR_sfR, hfL_sfL, haI_saI, haR_saR, haL_saL, k0, k1, k2, k3, k4, k5, g0, g1, g2, g3, g4, g5, g6, g7, Nat.add_left_cancel_iff, Nat.reduceEqDiff, Nat.add_eq_left, Nat.left_eq_add, if_true, if_false, Nat.reduceAdd, true_and, and_true, Nat.one_ne_zero, Nat.succ_ne_self, ek, w1, w2, w3, w4, w5]
      refine ⟨fun hne => ?_, fun he => ?_⟩
      · refine ⟨Nc c1 - (l + 1), by omega, (hJ _ _ _ _).mpr ⟨l + 1, by omega, rfl, by omega, ?_, F3, fun k hk e => ?_⟩⟩
        · rw [cs, if_neg hne]; rfl
        · by_cases e2 : k = l
          · rw [e2] at e; exact absurd e hne
          · exact E k (by omega) e
      · refine ⟨Nc c1 - (l + 1), by omega, (hJ _ _ _ _).mpr ⟨l + 1, by omega, rfl, by omega, ?_, F3.tsa (by omega) (by omega), fun k hk e => ?_⟩⟩
        · rw [cs, if_pos he]; omega
        · rw [haI_saI, if_pos rfl, u1_apply]
          by_cases e2 : k = l
          · rw [if_pos (by omega), e2]; unfold theA; rw [cs, if_pos he]; omega
          · rw [if_neg (by omega)]; exact E k (by omega) e
  · obtain ⟨i, rfl⟩ : ∃ i, r = i + 1 := ⟨r - 1, by omega⟩
    have ei : ((i + 1 : Nat) : Int) - 1 = (i : Int) := by omega
    rw [ei]
    have ek := (RR2 i (by omega)).2.2.1
    have cs := cK_s (f := kfA c0 c1 st) (n := i) (v := 4)
    have w1 : (0 : Int) ≤ (i : Int) := by omega
    have w2 : (i : Int) < ((40 : Nat) : Int) := by omega
    have w3 : inR ((i : Int) + -1) := by unfold inR; omega
    have w4 : inR (st 6 + ((cK (kfA c0 c1 st) (Nc c0) 4 : Int) - (cK (kfA c0 c1 st) (i + 1) 4 : Int)) + 1) := by unfold inR; omega
    have w5 : hlo h' ≤ s + 9 := by omega
    simp only [okA, okI, okW, jn_def, pair_ex, some_ex, forall_eq, hkd_sfI, hkd_sfR, hkd_sfL, hkd_saI, hkd_saR, hkd_saL, hkd_nGb, hlo_sfI, hlo_sfR, hlo_sfL, hlo_saI, hlo_saR, hlo_saL, hlo_nGb, hfR_sfI, hfR_sfL, hfR_saI, hfR_saR, hfR_saL, hfR_nGb, hfI_sfR, hfI_sfL, hfI_saI, hfI_saR, hfI_saL, hfI_nGb, haI_sfI, haI_sfR, haI_sfL, haI_saR, haI_saL, haI_nGb, haR_sfI, haR_sfR, haR_saI, haR_nGb, haL_sfI, haL_saI, hfL_sfI, hfL_saI, hfI_sfI, hfR_sfR, hfL_sfL, haI_saI, haR_saR, haL_saL, p0, p1, p2, p3, p4, p5, p6, q0, q1, q2, q3, q4, q5, q6, k0, k1, k2, k3, k4, k5, g0, g1, g2, g3, g4, g5, g6, g7, Nat.add_left_cancel_iff, Nat.reduceEqDiff, Nat.add_eq_left, Nat.left_eq_add, if_true, if_false, Nat.reduceAdd, true_and, and_true, Nat.one_ne_zero, Nat.succ_ne_self, ek, w1, w2, w3, w4, w5]
    refine ⟨fun hne => ?_, fun he => ?_⟩
    · refine ⟨i, by omega, (hI _ _ _ _).mpr ⟨i, by omega, rfl, by omega, ?_, F2, fun k h1 h2 e => ?_⟩⟩
      · rw [cs, if_neg hne]; omega
      · by_cases e2 : k = i
        · rw [e2] at e; exact absurd e hne
        · exact D k (by omega) h2 e
    · refine ⟨i, by omega, (hI _ _ _ _).mpr ⟨i, by omega, rfl, by omega, ?_, F2.tsa (by omega) (by omega), fun k h1 h2 e => ?_⟩⟩
      · rw [cs, if_pos he]; omega
      · rw [haI_saI, if_pos rfl, u1_apply]
        by_cases e2 : k = i
        · rw [if_pos (by omega), e2]; unfold gonA; rw [cs, if_pos he]; omega
        · rw [if_neg (by omega)]; exact D k (by omega) h2 e
