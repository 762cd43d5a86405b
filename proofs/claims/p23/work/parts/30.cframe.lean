/-! THE PURE LAYER, 14: shared cells, a frame's properties -/
def pcN (c0 c1 st : Nat → Int) (F : Nat) (f : Int) : Nat → Nat → Nat
  | 0, _ => 0
  | n + 1, c => pcN c0 c1 st F f n c + (if plA c0 c1 st F n f = (c : Int) then 1 else 0)
theorem pcN_s {c0 c1 st : Nat → Int} {F : Nat} {f : Int} {n c : Nat} : pcN c0 c1 st F f (n + 1) c = pcN c0 c1 st F f n c + (if plA c0 c1 st F n f = (c : Int) then 1 else 0) := rfl
theorem pcN_le {c0 c1 st : Nat → Int} {F : Nat} {f : Int} {n c : Nat} : pcN c0 c1 st F f n c ≤ n := by
  induction n with
  | zero => exact Nat.le_refl _
  | succ n ih => rw [pcN_s]; split <;> omega
def shd (c0 c1 st : Nat → Int) (F : Nat) (f : Int) (n : Nat) : Nat → Int := fun c => if 2 ≤ pcN c0 c1 st F f n c then 1 else 0
theorem sN_upd {g g' : Nat → Int} {n p : Nat} (hp : p < n) (h : ∀ k, k < n → k ≠ p → g' k = g k) : sN g' n = sN g n + (g' p - g p) := by
  induction n with
  | zero => omega
  | succ n ih =>
    rw [sN_s, sN_s]
    by_cases e : p = n
    · subst e
      rw [sN_ext (g := g) (fun k hk => h k (by omega) (by omega))]; omega
    · rw [ih (by omega) (fun k hk hne => h k (by omega) hne), h n (by omega) (by omega)]; omega
set_option maxHeartbeats 2000000 in
theorem m_shared {zz : Nat → Nat} {s t0 t1 F : Nat} {f : Int} {h : AH} {Q : Int → AH → Prop} {c0 c1 st : Nat → Int} (A : WA h s t0 t1 c0 c1 st F) (hf : -10 ≤ f ∧ f ≤ 1000) (q : ∀ h' : AH, Fr h h' (s + 11) (s + 14) → Q (sN (shd c0 c1 st F f (Nc c0)) 80) h') : w_X1_sharedCells zz (s + 8) f h Q := by
  have X := A.2.2.2.1
  have hc0 : GC c0 := A.2.2.2.2.2.2.1
  have hg : GS st := A.2.2.2.2.2.1
  have h40 : Nc c0 ≤ 40 := hc0.2
  have lo := A.1.1.2.2.2.2.2.1
  unfold w_X1_sharedCells
  refine ⟨by rw [okA_of X.1], s + 13, X.2.2.2.2.2.2.2.2.2.2.2.2.2, ?_⟩
  refine m_fill X.2.2.2.2.2.1 (by omega) (by omega) ?_
  have F0 : Fr h (saI h (s + 13) (flA 0 80 (haI h (s + 13)))) (s + 13) (s + 14) := Fr.sa (by omega) (by omega)
  have D0 : ∀ c : Nat, c < 80 → haI (saI h (s + 13) (flA 0 80 (haI h (s + 13)))) (s + 13) c = (pcN c0 c1 st F f 0 c : Int) := fun c hc => by
    rw [haI_saI, if_pos rfl]; unfold flA; rw [if_pos (by omega)]; rfl
  revert F0 D0
  generalize saI h (s + 13) (flA 0 80 (haI h (s + 13))) = g
  intro F0 D0
  have z0 : ∀ n, sN (shd c0 c1 st F f 0) n = 0 := by
    intro n
    induction n with
    | zero => rfl
    | succ n ih => rw [sN_s, ih]; rfl
  obtain ⟨I, hI⟩ : ∃ I : Nat → Int → Int → AH → Prop, ∀ m x1 x2 h', I m x1 x2 h' ↔ ∃ k : Nat, k ≤ Nc c0 ∧ m = Nc c0 - k ∧ x2 = (k : Int) ∧ x1 = sN (shd c0 c1 st F f k) 80 ∧ Fr h h' (s + 13) (s + 14) ∧ ∀ c : Nat, c < 80 → haI h' (s + 13) c = (pcN c0 c1 st F f k c : Int) := ⟨_, fun _ _ _ _ => Iff.rfl⟩
  refine ⟨I, ⟨_, (hI _ _ _ _).mpr ⟨0, by omega, rfl, rfl, (z0 80).symm, F0, D0⟩⟩, ?_⟩
  intro m x1 x2 h' hi9
  obtain ⟨k, hk, rfl, rfl, rfl, F1, D1⟩ := (hI _ _ _ _).mp hi9
  have A1 := A.fr F1 (by omega)
  have S1 := A1.1
  have X1 := A1.2.2.2.1
  have lo' : hlo h' ≤ s := S1.1.2.2.2.2.2.1
  obtain ⟨⟨a0, a1, a2, a3, a4, a5, a6⟩, ⟨⟨b0, b1, b2, b3, b4, b5⟩, b6, b7, b8⟩, ⟨⟨d0, d1, d2, d3, d4, d5⟩, d6, d7, d8⟩, a9⟩ := S1
  obtain ⟨k0, k1, k2, k3, k4, k5, g0, g1, g2, g3, g4, g5, g6, g7⟩ := X1
  simp only [txt0, okA, jn_def, pair_ex, some_ex, forall_eq, a0, a1, a2, a3, a4, b0, b1, b2, b3, b4, b7, d0, d1, d2, d3, d4, d7, k0, k1, k2, k3, k4, k5, g0, g1, g2, g3, g4, g5, g6, g7, Nat.add_left_cancel_iff, Nat.reduceEqDiff, Nat.add_eq_left, Nat.left_eq_add, if_true, if_false, Nat.reduceAdd, true_and, and_true, Nat.one_ne_zero, Nat.succ_ne_self]
  refine ⟨fun hc => ?_, fun hc => ?_⟩
  · obtain rfl : k = Nc c0 := by omega
    exact q h' (F1.wide (by omega) (by omega))
  · have hk9 : k < Nc c0 := by omega
    refine m_cellOf A1 hk9 hf ⟨fun hn => ?_, fun hn => ?_⟩
    · refine ⟨by unfold inR; omega, Nc c0 - (k + 1), by omega, (hI _ _ _ _).mpr ⟨k + 1, by omega, rfl, by omega, ?_, F1, fun c hc => ?_⟩⟩
      · refine sN_ext (fun c hc => ?_)
        have e := pcN_s (c0 := c0) (c1 := c1) (st := st) (F := F) (f := f) (n := k) (c := c)
        rw [if_neg (show ¬ (plA c0 c1 st F k f = (c : Int)) by omega)] at e
        unfold shd
        rw [e]; rfl
      · rw [pcN_s, if_neg (by omega)]; exact D1 c hc
    · have pb := pl_bd hg hk9 hn
      obtain ⟨p, hp⟩ : ∃ p : Nat, (p : Int) = plA c0 c1 st F k f := ⟨(plA c0 c1 st F k f).toNat, by omega⟩
      rw [← hp] at pb ⊢
      have hp8 : p < 80 := by omega
      have e := D1 p hp8
      have cl := pcN_le (c0 := c0) (c1 := c1) (st := st) (F := F) (f := f) (n := k) (c := p)
      have x1 : (0 : Int) ≤ (p : Int) := by omega
      have x2 : (p : Int) < ((80 : Nat) : Int) := by omega
      have x3 : inR ((pcN c0 c1 st F f k p : Int) + 1) := by unfold inR; omega
      have x4 : hlo h' ≤ s + 13 := by omega
      have b1 := sN_bd (f := shd c0 c1 st F f k) (n := 80) (b := 1) (fun i hi => by unfold shd; split <;> omega)
      have cs := pcN_s (c0 := c0) (c1 := c1) (st := st) (F := F) (f := f) (n := k) (c := p)
      rw [if_pos hp.symm] at cs
      have su : sN (shd c0 c1 st F f (k + 1)) 80 = sN (shd c0 c1 st F f k) 80 + (shd c0 c1 st F f (k + 1) p - shd c0 c1 st F f k p) := sN_upd hp8 (fun c hc hne => by
        have e := pcN_s (c0 := c0) (c1 := c1) (st := st) (F := F) (f := f) (n := k) (c := c)
        rw [if_neg (show ¬ (plA c0 c1 st F k f = (c : Int)) by omega)] at e
        unfold shd; rw [e]; rfl)
      have fin : ∀ v, v = shd c0 c1 st F f (k + 1) p - shd c0 c1 st F f k p → 0 ≤ v ∧ v ≤ 1 → inR (sN (shd c0 c1 st F f k) 80 + v) ∧ inR ((k : Int) + 1) ∧ ∃ m, m < Nc c0 - k ∧ I m (sN (shd c0 c1 st F f k) 80 + v) ((k : Int) + 1) (saI h' (s + 13) (u1 (haI h' (s + 13)) p ((pcN c0 c1 st F f k p : Int) + 1))) := by
        intro v hv hv2
        refine ⟨by unfold inR; omega, by unfold inR; omega, Nc c0 - (k + 1), by omega, (hI _ _ _ _).mpr ⟨k + 1, by omega, rfl, by omega, by rw [su, hv], F1.tsa (by omega) (by omega), fun c hc => ?_⟩⟩
        rw [haI_saI, if_pos rfl, u1_apply]
        by_cases ec : c = p
        · subst ec; rw [if_pos rfl, cs]; omega
        · rw [if_neg (by omega), pcN_s, if_neg (by omega)]; exact D1 c hc
      simp only [hkd_sfI, hkd_sfR, hkd_sfL, hkd_saI, hkd_saR, hkd_saL, hkd_nGb, hlo_sfI, hlo_sfR, hlo_sfL, hlo_saI, hlo_saR, hlo_saL, hlo_nGb, hfR_sfI, hfR_sfL, hfR_saI, hfR_saR, hfR_saL, hfR_nGb, hfI_sfR, hfI_sfL, hfI_saI, hfI_saR, hfI_saL, hfI_nGb, haI_sfI, haI_sfR, haI_sfL, haI_saR, haI_saL, haI_nGb, haR_sfI, haR_sfR, haR_saI, haR_nGb, haL_sfI, haL_saI, hfL_sfI, hfL_saI, hfI_sfI, hfR_sfR, hfL_sfL, haI_saI, haR_saR, haL_saL, okA, okP, okI, okW, okJ, okV, okQ, okU, okC, jn_def, pair_ex, some_ex, forall_eq, k0, k1, k2, k3, k4, k5, g0, g1, g2, g3, g4, g5, g6, g7, Nat.add_left_cancel_iff, Nat.reduceEqDiff, Nat.add_eq_left, Nat.left_eq_add, if_true, if_false, Nat.reduceAdd, true_and, and_true, Nat.one_ne_zero, Nat.succ_ne_self, u1_apply, e, x1, x2, x3, x4]
      refine ⟨fun hne => fin 0 ?_ (by omega), fun heq => fin 1 ?_ (by omega)⟩
      · unfold shd
        rw [cs]
        by_cases e2 : 2 ≤ pcN c0 c1 st F f k p
        · rw [if_pos e2, if_pos (by omega)]; rfl
        · rw [if_neg e2, if_neg (by omega)]; rfl
      · unfold shd
        rw [cs, if_pos (by omega), if_neg (by omega)]; rfl
def fraA (c0 c1 st : Nat → Int) (F : Nat) (f v : Int) : Int := if v = 0 then sN (cwl c0 c1 st F f) 80 else if v = 1 then (if f = 0 then 0 else sN (ctd c0 c1 st F f) 80) else if v = 2 then hin c0 c1 st F (f - sti c0 c1 st) else if v = 3 then sN (shd c0 c1 st F f (Nc c0)) 80 else sN (plf c0 c1 st f) (Nc c0)
theorem m_frameP {zz : Nat → Nat} {s t0 t1 F : Nat} {f v : Int} {h : AH} {Q : Int → AH → Prop} {c0 c1 st : Nat → Int} (A : WA h s t0 t1 c0 c1 st F) (hf : 0 ≤ f ∧ f ≤ 1000) (hv : 0 ≤ v ∧ v ≤ 4) (q : ∀ h' : AH, Fr h h' (s + 11) (s + 14) → Q (fraA c0 c1 st F f v) h') : w_X1_frameProperty zz (s + 8) f v h Q := by
  have A0 := A
  obtain ⟨S, P, M, X, W, hg, hc0, hc1⟩ := A
  have h40 : Nc c0 ≤ 40 := hc0.2
  have hF := W.2.2.2.2.2.2.2
  have sb := sti_bd (c0 := c0) (c1 := c1) hg h40
  have y6 := W.2.2.2.1
  have y7 := W.2.2.1.1
  have y8 := W.2.2.1.2.2.1.2
  obtain ⟨k0, k1, k2, k3, k4, k5, g0, g1, g2, g3, g4, g5, g6, g7⟩ := X
  obtain ⟨v0, v1, v2, v3, v4, v5, v6, v7, v8, w0, w1, w2, w3, w4, w5, w6, w7, w8, w9⟩ := M
  unfold w_X1_frameProperty
  refine ⟨fun e => ?_, fun e => ?_, fun e => ?_, fun e => ?_, fun e => ?_⟩
  · subst e; exact ⟨by rw [okA_of k0], m_cellsWith A0 (by omega) (fun h' F1 => q h' F1)⟩
  · subst e
    refine ⟨fun hn => ⟨by rw [okA_of k0], m_cellsDiffer A0 hf (fun h' F1 => ?_)⟩, fun hz => ?_⟩
    · have := q h' F1
      have e : fraA c0 c1 st F f 1 = sN (ctd c0 c1 st F f) 80 := by
        show (if f = 0 then 0 else sN (ctd c0 c1 st F f) 80) = _
        rw [if_neg hn]
      rw [e] at this; exact this
    · have := q h (Fr.refl _ _ _)
      have e : fraA c0 c1 st F f 1 = 0 := by
        show (if f = 0 then 0 else sN (ctd c0 c1 st F f) 80) = _
        rw [if_pos hz]
      rw [e] at this; exact this
  · subst e
    have q2 : Q (hin c0 c1 st F (f - sti c0 c1 st)) h := q h (Fr.refl _ _ _)
    have x1 : inR (f - sti c0 c1 st) := by unfold inR; omega
    unfold w_X2_heldIn
    simp only [okA, okI, jn_def, pair_ex, some_ex, v0, v1, v2, v3, v4, v5, v6, v7, v8, w0, w1, w2, w3, w4, w5, w6, w7, w8, w9, k0, k1, k2, k3, k4, k5, g0, g1, g2, g3, g4, g5, g6, g7, Nat.add_left_cancel_iff, Nat.reduceEqDiff, Nat.add_eq_left, Nat.left_eq_add, if_true, if_false, Nat.reduceAdd, true_and, and_true, Nat.one_ne_zero, Nat.succ_ne_self, y6, y7, x1]
    unfold hin at q2
    refine ⟨fun hlt => ?_, fun hge => ⟨fun hlt => ?_, fun hle => ⟨⟨by omega, by omega⟩, ?_⟩⟩⟩
    · rw [if_neg (by omega)] at q2; exact q2
    · rw [if_neg (by omega)] at q2; exact q2
    · rw [if_pos ⟨by omega, by omega⟩] at q2
      have e9 := y8 (f - sti c0 c1 st).toNat (by omega)
      rw [if_pos ⟨by omega, by omega⟩, Int.toNat_of_nonneg (by omega)] at e9
      rw [e9]; exact q2
  · subst e; exact ⟨by rw [okA_of k0], m_shared A0 (by omega) (fun h' F1 => q h' F1)⟩
  · obtain rfl : v = 4 := by omega
    exact ⟨by rw [okA_of k0], m_piecesLeft A0 (q h (Fr.refl _ _ _))⟩
