/-! THE PURE LAYER, 13: what is shown in a frame -/
def shL (c0 c1 st : Nat → Int) (F : Nat) (f : Int) : Nat → Nat → Int
  | 0 => fun _ => 32
  | l + 1 => if ksA c0 c1 st l = 5 ∧ theA c0 c1 st F l ≤ f then un (shL c0 c1 st F f l) (Lc c1 l) (Ac c1 l) else shL c0 c1 st F f l
def shP (c0 c1 st : Nat → Int) (F : Nat) (f : Int) : Nat → Nat → Int
  | 0 => shL c0 c1 st F f (Nc c1)
  | r + 1 => if plA c0 c1 st F (Nc c0 - 1 - r) f = -1 then shP c0 c1 st F f r else un (shP c0 c1 st F f r) (plA c0 c1 st F (Nc c0 - 1 - r) f).toNat (pcA c0 c1 st F (Nc c0 - 1 - r) f)
def shA (c0 c1 st : Nat → Int) (F : Nat) (f : Int) (c : Nat) : Int := shP c0 c1 st F f (Nc c0) c
theorem pl_bd {c0 c1 st : Nat → Int} (hg : GS st) {F k : Nat} {f : Int} (hk : k < Nc c0) (h : plA c0 c1 st F k f ≠ -1) : 0 ≤ plA c0 c1 st F k f ∧ plA c0 c1 st F k f < 80 := by
  unfold plA at *
  split at h
  · exact absurd rfl h
  next e => rw [if_neg e]; exact (mfA_bd hg hk).1
theorem u1_unI {f : Nat → Int} {p : Int} {c : Nat} {v : Int} (hp : 0 ≤ p) : (if (c : Int) = p then v else f c) = un f p.toNat v c := by
  unfold un
  by_cases e : (c : Int) = p
  · rw [if_pos e, if_pos (by omega)]
  · rw [if_neg e, if_neg (by omega)]
set_option maxHeartbeats 2000000 in
theorem m_show {zz : Nat → Nat} {s t0 t1 F a : Nat} {f : Int} {h : AH} {Q : AH → Prop} {c0 c1 st : Nat → Int} (A : WA h s t0 t1 c0 c1 st F) (ha : a = s + 11 ∨ a = s + 12) (hf : -10 ≤ f ∧ f ≤ 1000) (q : ∀ h' : AH, Fr h h' a (a + 1) → (∀ c : Nat, c < 80 → haI h' a c = shA c0 c1 st F f c) → Q h') : w_X1_show zz (s + 8) f a h Q := by
  have A0 := A
  have hc0 : GC c0 := A.2.2.2.2.2.2.1
  have hc1 : GC c1 := A.2.2.2.2.2.2.2
  have hg : GS st := A.2.2.2.2.2.1
  have h40 : Nc c0 ≤ 40 := hc0.2
  have h41 : Nc c1 ≤ 40 := hc1.2
  have lo := A.1.1.2.2.2.2.2.1
  have ka : hkd h a = (1, 80) := by
    rcases ha with rfl | rfl
    · exact A.2.2.2.1.2.2.2.1
    · exact A.2.2.2.1.2.2.2.2.1
  unfold w_X1_show
  refine m_fill ka (by omega) (by omega) ?_
  have F0 : Fr h (saI h a (flA 32 80 (haI h a))) a (a + 1) := Fr.sa (by omega) (by omega)
  have D0 : ∀ c : Nat, c < 80 → haI (saI h a (flA 32 80 (haI h a))) a c = shL c0 c1 st F f 0 c := fun c hc => by
    rw [haI_saI, if_pos rfl]; unfold flA; rw [if_pos (by omega)]; rfl
  revert F0 D0
  generalize saI h a (flA 32 80 (haI h a)) = g
  intro F0 D0
  obtain ⟨I, hI⟩ : ∃ I : Nat → Int → AH → Prop, ∀ m x h', I m x h' ↔ ∃ l : Nat, l ≤ Nc c1 ∧ m = Nc c1 - l ∧ x = (l : Int) ∧ Fr h h' a (a + 1) ∧ ∀ c : Nat, c < 80 → haI h' a c = shL c0 c1 st F f l c := ⟨_, fun _ _ _ => Iff.rfl⟩
  refine ⟨I, ⟨_, (hI _ _ _).mpr ⟨0, by omega, rfl, rfl, F0, D0⟩⟩, ?_⟩
  intro m x h' hi9
  obtain ⟨l, hl, rfl, rfl, F1, D1⟩ := (hI _ _ _).mp hi9
  have A1 := A.fr F1 (by omega)
  obtain ⟨S, P, M, X, W, -⟩ := A1
  obtain ⟨⟨a0, a1, a2, a3, a4, a5, a6⟩, ⟨⟨b0, b1, b2, b3, b4, b5⟩, b6, b7, b8⟩, ⟨⟨d0, d1, d2, d3, d4, d5⟩, d6, d7, d8⟩, a9⟩ := S
  obtain ⟨p0, p1, p2, p3, p4, p5, p6, q0, q1, q2, q3, q4, q5, q6⟩ := P
  obtain ⟨k0, k1, k2, k3, k4, k5, g0, g1, g2, g3, g4, g5, g6, g7⟩ := X
  have i6 : inR ((Nc c0 : Int) - 1) := by unfold inR; omega
  simp only [txt0, txt1, okA, okI, jn_def, pair_ex, some_ex, forall_eq, a0, a1, a2, a3, a4, b0, b1, b2, b3, b4, b7, d0, d1, d2, d3, d4, d7, p0, p1, p2, p3, p4, p5, p6, q0, q1, q2, q3, q4, q5, q6, k0, k1, k2, k3, k4, k5, g0, g1, g2, g3, g4, g5, g6, g7, Nat.add_left_cancel_iff, Nat.reduceEqDiff, Nat.add_eq_left, Nat.left_eq_add, if_true, if_false, Nat.reduceAdd, true_and, and_true, Nat.one_ne_zero, Nat.succ_ne_self, i6]
  refine ⟨fun hc => ?_, fun hc => ?_⟩
  · obtain rfl : l = Nc c1 := by omega
    obtain ⟨J, hJ⟩ : ∃ J : Nat → Int → AH → Prop, ∀ m x g, J m x g ↔ ∃ r : Nat, r ≤ Nc c0 ∧ m = Nc c0 - r ∧ x = (Nc c0 : Int) - 1 - (r : Int) ∧ Fr h g a (a + 1) ∧ ∀ c : Nat, c < 80 → haI g a c = shP c0 c1 st F f r c := ⟨_, fun _ _ _ => Iff.rfl⟩
    refine ⟨J, ⟨_, (hJ _ _ _).mpr ⟨0, by omega, rfl, by omega, F1, D1⟩⟩, ?_⟩
    intro m x g2 hj9
    obtain ⟨r, hr, rfl, rfl, F2, D2⟩ := (hJ _ _ _).mp hj9
    have A2 := A.fr F2 (by omega)
    refine ⟨fun hc2 => ?_, fun hc2 => ?_⟩
    · obtain rfl : r = Nc c0 := by omega
      exact q g2 F2 D2
    · obtain ⟨k, hk⟩ : ∃ k : Nat, k = Nc c0 - 1 - r := ⟨_, rfl⟩
      have hk9 : k < Nc c0 := by omega
      rw [show (Nc c0 : Int) - 1 - (r : Int) = (k : Int) by omega]
      have k2 := A2.2.2.2.1
      have step : shP c0 c1 st F f (r + 1) = if plA c0 c1 st F k f = -1 then shP c0 c1 st F f r else un (shP c0 c1 st F f r) (plA c0 c1 st F k f).toNat (pcA c0 c1 st F k f) := by rw [hk]; rfl
      refine ⟨by rw [k2.1], m_cellOf A2 hk9 hf ⟨fun hn => ?_, fun hn => ?_⟩⟩
      · rw [if_pos hn] at step
        exact ⟨by unfold inR; omega, Nc c0 - (r + 1), by omega, (hJ _ _ _).mpr ⟨r + 1, by omega, rfl, by omega, F2, by rw [step]; exact D2⟩⟩
      · rw [if_neg hn] at step
        have pb := pl_bd hg hk9 hn
        refine ⟨by rw [k2.1], m_pieceCode A2 hk9 hf ?_⟩
        have k3 : hkd g2 a = (1, 80) := by rw [F2.kd]; exact ka
        have k4 : hlo g2 = hlo h := F2.lo
        rw [okW_of k3]
        refine ⟨⟨pb.1, by omega, by omega⟩, ?_⟩
        refine ⟨by unfold inR; omega, Nc c0 - (r + 1), by omega, (hJ _ _ _).mpr ⟨r + 1, by omega, rfl, by omega, F2.tsa (by omega) (by omega), fun c hc => ?_⟩⟩
        rw [haI_saI, if_pos rfl, u1_apply, step, D2 c hc]
        exact u1_unI pb.1
  · have hl9 : l < Nc c1 := by omega
    have e4 := (W.1 l (by omega)).2.2.2
    have l1 := Lc_lt hl9
    have f1 := d6 _ l1
    have f9 := d8 l hl9
    have x1 : (0 : Int) ≤ (l : Int) := by omega
    have x2 : (l : Int) < ((40 : Nat) : Int) := by omega
    have x3 : (0 : Int) ≤ (Lc c1 l : Int) := by omega
    have x4 : (Lc c1 l : Int) < ((80 : Nat) : Int) := by omega
    have x5 : inR ((l : Int) + 1) := by unfold inR; omega
    have x6 : hkd h' a = (1, 80) := by rw [F1.kd]; exact ka
    have x7 : hlo h' ≤ a := by rw [F1.lo]; omega
    simp only [txt1, w_X5_codeOf, hkd_sfI, hkd_sfR, hkd_sfL, hkd_saI, hkd_saR, hkd_saL, hkd_nGb, hlo_sfI, hlo_sfR, hlo_sfL, hlo_saI, hlo_saR, hlo_saL, hlo_nGb, hfR_sfI, hfR_sfL, hfR_saI, hfR_saR, hfR_saL, hfR_nGb, hfI_sfR, hfI_sfL, hfI_saI, hfI_saR, hfI_saL, hfI_nGb, haI_sfI, haI_sfR, haI_sfL, haI_saR, haI_saL, haI_nGb, haR_sfI, haR_sfR, haR_saI, haR_nGb, haL_sfI, haL_saI, hfL_sfI, hfL_saI, hfI_sfI, hfR_sfR, hfL_sfL, haI_saI, haR_saR, haL_saL, okA, okP, okI, okW, okJ, okV, okQ, okU, okC, jn_def, pair_ex, some_ex, forall_eq, a0, a1, a2, a3, a4, b0, b1, b2, b3, b4, b7, d0, d1, d2, d3, d4, d7, k0, k1, k2, k3, k4, k5, g0, g1, g2, g3, g4, g5, g6, g7, Nat.add_left_cancel_iff, Nat.reduceEqDiff, Nat.add_eq_left, Nat.left_eq_add, if_true, if_false, Nat.reduceAdd, true_and, and_true, Nat.one_ne_zero, Nat.succ_ne_self, e4, f1, f9, x1, x2, x3, x4, x5, x6, x7]
    have stay : ¬ (ksA c0 c1 st l = 5 ∧ theA c0 c1 st F l ≤ f) → ∃ m, m < Nc c1 - l ∧ I m ((l : Int) + 1) h' := fun hn => ⟨Nc c1 - (l + 1), by omega, (hI _ _ _).mpr ⟨l + 1, by omega, rfl, by omega, F1, fun c hc => by
      show _ = (if ksA c0 c1 st l = 5 ∧ theA c0 c1 st F l ≤ f then un (shL c0 c1 st F f l) (Lc c1 l) (Ac c1 l) else shL c0 c1 st F f l) c
      rw [if_neg hn]; exact D1 c hc⟩⟩
    refine ⟨fun hn => stay (fun h => hn h.1), fun hy => ?_⟩
    have e9 := W.2.2.2.2.2.1 l hl9 hy
    simp only [e9]
    refine ⟨fun hlt => stay (fun h => by have := h.2; omega), fun hge => ⟨Nc c1 - (l + 1), by omega, (hI _ _ _).mpr ⟨l + 1, by omega, rfl, by omega, F1.tsa (by omega) (by omega), fun c hc => ?_⟩⟩⟩
    show _ = (if ksA c0 c1 st l = 5 ∧ theA c0 c1 st F l ≤ f then un (shL c0 c1 st F f l) (Lc c1 l) (Ac c1 l) else shL c0 c1 st F f l) c
    rw [if_pos ⟨hy, by omega⟩, haI_saI, if_pos rfl, u1_apply, D1 c hc]
    exact u1_un
theorem m_codeShown {zz : Nat → Nat} {s t0 t1 F c : Nat} {f : Int} {h : AH} {Q : Int → AH → Prop} {c0 c1 st : Nat → Int} (A : WA h s t0 t1 c0 c1 st F) (hf : -10 ≤ f ∧ f ≤ 1000) (hc : c < 80) (q : ∀ h' : AH, Fr h h' (s + 11) (s + 14) → Q (shA c0 c1 st F f c) h') : w_X1_codeShown zz (s + 8) f c h Q := by
  have X := A.2.2.2.1
  unfold w_X1_codeShown
  refine ⟨by rw [okA_of X.1], s + 11, X.2.2.2.2.2.2.2.2.2.2.2.1, by rw [okA_of X.1], m_show A (.inl rfl) hf (fun h' F1 D => ?_)⟩
  have X1 := X.fr F1
  refine ⟨by rw [okA_of X1.1], s + 11, X1.2.2.2.2.2.2.2.2.2.2.2.1, ?_⟩
  rw [okI_of X1.2.2.2.1, D c hc]
  exact ⟨⟨by omega, by omega⟩, q h' (F1.wide (by omega) (by omega))⟩
/-- a frame's properties -/
def cwl (c0 c1 st : Nat → Int) (F : Nat) (f : Int) : Nat → Int := fun c => if shA c0 c1 st F f c = 32 then 0 else 1
def ctd (c0 c1 st : Nat → Int) (F : Nat) (f : Int) : Nat → Int := fun c => if shA c0 c1 st F f c = shA c0 c1 st F (f - 1) c then 0 else 1
def plf (c0 c1 st : Nat → Int) (f : Int) : Nat → Int := fun k => if kfA c0 c1 st k = 4 ∧ gonA c0 c1 st k ≤ f then 0 else 1
def hin (c0 c1 st : Nat → Int) (F : Nat) (d : Int) : Int := if 1 ≤ d ∧ d ≤ (F : Int) then ((mfA c0 c1 st d.toNat).2.2.2.2 : Int) else 0
theorem m_cellsWith {zz : Nat → Nat} {s t0 t1 F : Nat} {f : Int} {h : AH} {Q : Int → AH → Prop} {c0 c1 st : Nat → Int} (A : WA h s t0 t1 c0 c1 st F) (hf : -10 ≤ f ∧ f ≤ 1000) (q : ∀ h' : AH, Fr h h' (s + 11) (s + 14) → Q (sN (cwl c0 c1 st F f) 80) h') : w_X1_cellsWithLetters zz (s + 8) f h Q := by
  have X := A.2.2.2.1
  unfold w_X1_cellsWithLetters
  refine ⟨by rw [okA_of X.1], s + 11, X.2.2.2.2.2.2.2.2.2.2.2.1, by rw [okA_of X.1], m_show A (.inl rfl) hf (fun g F1 D => ?_)⟩
  have X1 := X.fr F1
  obtain ⟨I, hI⟩ : ∃ I : Nat → Int → Int → AH → Prop, ∀ m x1 x2 h', I m x1 x2 h' ↔ ∃ c : Nat, c ≤ 80 ∧ m = 80 - c ∧ x2 = (c : Int) ∧ x1 = sN (cwl c0 c1 st F f) c ∧ h' = g := ⟨_, fun _ _ _ _ => Iff.rfl⟩
  refine ⟨I, ⟨_, (hI _ _ _ _).mpr ⟨0, by omega, rfl, rfl, rfl, rfl⟩⟩, ?_⟩
  intro m x1 x2 h' hi9
  obtain ⟨c, hc, rfl, rfl, rfl, rfl⟩ := (hI _ _ _ _).mp hi9
  refine ⟨fun hc2 => ?_, fun hc2 => ?_⟩
  · obtain rfl : c = 80 := by omega
    exact q h' (F1.wide (by omega) (by omega))
  · have hc9 : c < 80 := by omega
    refine ⟨by rw [okA_of X1.1], s + 11, X1.2.2.2.2.2.2.2.2.2.2.2.1, ?_⟩
    rw [okI_of X1.2.2.2.1, D c hc9, jn_def]
    have b1 := sN_bd (f := cwl c0 c1 st F f) (n := c) (b := 1) (fun i hi => by unfold cwl; split <;> omega)
    have fin : ∀ v, v = cwl c0 c1 st F f c → inR (sN (cwl c0 c1 st F f) c + v) ∧ ∀ x2_37 : Int, x2_37 = (sN (cwl c0 c1 st F f) c + v) → inR ((c : Int) + 1) ∧ ∀ x3_38 : Int, x3_38 = ((c : Int) + 1) → ∃ m, m < 80 - c ∧ I m x2_37 x3_38 h' := by
      intro v hv
      have hv2 : 0 ≤ v ∧ v ≤ 1 := by rw [hv]; unfold cwl; split <;> omega
      refine ⟨by unfold inR; omega, ?_⟩
      intro y ey
      refine ⟨by unfold inR; omega, ?_⟩
      intro z ez
      exact ⟨80 - (c + 1), by omega, (hI _ _ _ _).mpr ⟨c + 1, by omega, rfl, by omega, by rw [ey, hv]; rfl, rfl⟩⟩
    refine ⟨⟨by omega, by omega⟩, fun hn => fin 1 ?_, fun hy => fin 0 ?_⟩
    · unfold cwl; rw [if_neg hn]
    · unfold cwl; rw [if_pos hy]
theorem m_cellsDiffer {zz : Nat → Nat} {s t0 t1 F : Nat} {f : Int} {h : AH} {Q : Int → AH → Prop} {c0 c1 st : Nat → Int} (A : WA h s t0 t1 c0 c1 st F) (hf : 0 ≤ f ∧ f ≤ 1000) (q : ∀ h' : AH, Fr h h' (s + 11) (s + 14) → Q (sN (ctd c0 c1 st F f) 80) h') : w_X1_cellsThatDiffer zz (s + 8) f h Q := by
  have X := A.2.2.2.1
  unfold w_X1_cellsThatDiffer
  refine ⟨by unfold inR; omega, by rw [okA_of X.1], s + 12, X.2.2.2.2.2.2.2.2.2.2.2.2.1, by rw [okA_of X.1], m_show A (.inr rfl) (by omega) (fun g0 F0 D0 => ?_)⟩
  have A1 := A.fr F0 (by omega)
  have X0 := X.fr F0
  refine ⟨by rw [okA_of X0.1], s + 11, X0.2.2.2.2.2.2.2.2.2.2.2.1, by rw [okA_of X0.1], m_show A1 (.inl rfl) (by omega) (fun g F1 D => ?_)⟩
  have X1 := X0.fr F1
  have D2 : ∀ c : Nat, c < 80 → haI g (s + 12) c = shA c0 c1 st F (f - 1) c := fun c hc => by rw [F1.ai (by omega)]; exact D0 c hc
  obtain ⟨I, hI⟩ : ∃ I : Nat → Int → Int → AH → Prop, ∀ m x1 x2 h', I m x1 x2 h' ↔ ∃ c : Nat, c ≤ 80 ∧ m = 80 - c ∧ x2 = (c : Int) ∧ x1 = sN (ctd c0 c1 st F f) c ∧ h' = g := ⟨_, fun _ _ _ _ => Iff.rfl⟩
  refine ⟨I, ⟨_, (hI _ _ _ _).mpr ⟨0, by omega, rfl, rfl, rfl, rfl⟩⟩, ?_⟩
  intro m x1 x2 h' hi9
  obtain ⟨c, hc, rfl, rfl, rfl, rfl⟩ := (hI _ _ _ _).mp hi9
  refine ⟨fun hc2 => ?_, fun hc2 => ?_⟩
  · obtain rfl : c = 80 := by omega
    exact q h' ((F0.wide (by omega) (by omega)).trans (F1.wide (by omega) (by omega)))
  · have hc9 : c < 80 := by omega
    refine ⟨by rw [okA_of X1.1], s + 11, X1.2.2.2.2.2.2.2.2.2.2.2.1, ?_⟩
    rw [okI_of X1.2.2.2.1, D c hc9]
    refine ⟨⟨by omega, by omega⟩, by rw [okA_of X1.1], s + 12, X1.2.2.2.2.2.2.2.2.2.2.2.2.1, ?_⟩
    rw [okI_of X1.2.2.2.2.1, D2 c hc9, jn_def]
    have b1 := sN_bd (f := ctd c0 c1 st F f) (n := c) (b := 1) (fun i hi => by unfold ctd; split <;> omega)
    have fin : ∀ v, v = ctd c0 c1 st F f c → inR (sN (ctd c0 c1 st F f) c + v) ∧ ∀ x2_37 : Int, x2_37 = (sN (ctd c0 c1 st F f) c + v) → inR ((c : Int) + 1) ∧ ∀ x3_38 : Int, x3_38 = ((c : Int) + 1) → ∃ m, m < 80 - c ∧ I m x2_37 x3_38 h' := by
      intro v hv
      have hv2 : 0 ≤ v ∧ v ≤ 1 := by rw [hv]; unfold ctd; split <;> omega
      refine ⟨by unfold inR; omega, ?_⟩
      intro y ey
      refine ⟨by unfold inR; omega, ?_⟩
      intro z ez
      exact ⟨80 - (c + 1), by omega, (hI _ _ _ _).mpr ⟨c + 1, by omega, rfl, by omega, by rw [ey, hv]; rfl, rfl⟩⟩
    refine ⟨⟨by omega, by omega⟩, fun hn => fin 1 ?_, fun hy => fin 0 ?_⟩
    · unfold ctd; rw [if_neg hn]
    · unfold ctd; rw [if_pos hy]
theorem m_piecesLeft {zz : Nat → Nat} {s t0 t1 F : Nat} {f : Int} {h : AH} {Q : Int → AH → Prop} {c0 c1 st : Nat → Int} (A : WA h s t0 t1 c0 c1 st F) (q : Q (sN (plf c0 c1 st f) (Nc c0)) h) : w_X1_piecesLeft zz (s + 8) f h Q := by
  have A0 := A
  obtain ⟨S, P, M, X, W, hg, hc0, hc1⟩ := A
  have h40 : Nc c0 ≤ 40 := hc0.2
  obtain ⟨⟨a0, a1, a2, a3, a4, a5, a6⟩, ⟨⟨b0, b1, b2, b3, b4, b5⟩, b6, b7, b8⟩, ⟨⟨d0, d1, d2, d3, d4, d5⟩, d6, d7, d8⟩, a9⟩ := S
  obtain ⟨k0, k1, k2, k3, k4, k5, g0, g1, g2, g3, g4, g5, g6, g7⟩ := X
  unfold w_X1_piecesLeft
  obtain ⟨I, hI⟩ : ∃ I : Nat → Int → Int → AH → Prop, ∀ m x1 x2 h', I m x1 x2 h' ↔ ∃ k : Nat, k ≤ Nc c0 ∧ m = Nc c0 - k ∧ x2 = (k : Int) ∧ x1 = sN (plf c0 c1 st f) k ∧ h' = h := ⟨_, fun _ _ _ _ => Iff.rfl⟩
  refine ⟨I, ⟨_, (hI _ _ _ _).mpr ⟨0, by omega, rfl, rfl, rfl, rfl⟩⟩, ?_⟩
  intro m x1 x2 h' hi9
  obtain ⟨k, hk, rfl, rfl, rfl, rfl⟩ := (hI _ _ _ _).mp hi9
  simp only [txt0, okA, jn_def, pair_ex, some_ex, forall_eq, a0, a1, a2, a3, a4, b0, b1, b2, b3, b4, b7, d0, d1, d2, d3, d4, d7, k0, k1, k2, k3, k4, k5, g0, g1, g2, g3, g4, g5, g6, g7, Nat.add_left_cancel_iff, Nat.reduceEqDiff, Nat.add_eq_left, Nat.left_eq_add, if_true, if_false, Nat.reduceAdd, true_and, and_true, Nat.one_ne_zero, Nat.succ_ne_self]
  refine ⟨fun hc => ?_, fun hc => ?_⟩
  · obtain rfl : k = Nc c0 := by omega
    exact q
  · have hk9 : k < Nc c0 := by omega
    refine m_isGone A0 hk9 ?_
    have b1 := sN_bd (f := plf c0 c1 st f) (n := k) (b := 1) (fun i hi => by unfold plf; split <;> omega)
    have fin : ∀ v, v = plf c0 c1 st f k → inR (sN (plf c0 c1 st f) k + v) ∧ inR ((k : Int) + 1) ∧ ∃ m, m < Nc c0 - k ∧ I m (sN (plf c0 c1 st f) k + v) ((k : Int) + 1) h' := by
      intro v hv
      have hv2 : 0 ≤ v ∧ v ≤ 1 := by rw [hv]; unfold plf; split <;> omega
      exact ⟨by unfold inR; omega, by unfold inR; omega, Nc c0 - (k + 1), by omega, (hI _ _ _ _).mpr ⟨k + 1, by omega, rfl, by omega, by rw [hv]; rfl, rfl⟩⟩
    by_cases e : kfA c0 c1 st k = 4 ∧ gonA c0 c1 st k ≤ f
    · rw [if_pos e]
      exact ⟨fun h => absurd h (by omega), fun _ => fin 0 (by unfold plf; rw [if_pos e])⟩
    · rw [if_neg e]
      exact ⟨fun _ => fin 1 (by unfold plf; rw [if_neg e]), fun h => absurd rfl h⟩
