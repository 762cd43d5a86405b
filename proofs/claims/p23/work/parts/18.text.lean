/-! THE PURE LAYER, 2: letters of a text -/
/-- how many cells ahead of k have a letter -/
def cn (c : Nat → Int) : Nat → Nat
  | 0 => 0
  | k + 1 => cn c k + (if c k = 32 then 0 else 1)
/-- the cell of letter i, among those ahead of k -/
def cp (c : Nat → Int) : Nat → Nat → Nat
  | 0, _ => 0
  | k + 1, i => if c k ≠ 32 ∧ cn c k = i then k else cp c k i
theorem cn_s {c : Nat → Int} {k : Nat} : cn c (k + 1) = cn c k + (if c k = 32 then 0 else 1) := rfl
theorem cp_s {c : Nat → Int} {k i : Nat} : cp c (k + 1) i = if c k ≠ 32 ∧ cn c k = i then k else cp c k i := rfl
theorem cn_mono {c : Nat → Int} {k j : Nat} (h : k ≤ j) : cn c k ≤ cn c j := by
  induction j with
  | zero => rw [show k = 0 by omega]; exact Nat.le_refl _
  | succ j ih =>
    by_cases e : k = j + 1
    · rw [e]; exact Nat.le_refl _
    · rw [cn_s]; have := ih (by omega); omega
theorem cn_le {c : Nat → Int} {k : Nat} : cn c k ≤ k := by
  induction k with
  | zero => exact Nat.le_refl _
  | succ k ih => rw [cn_s]; split <;> omega
theorem cp_ok {c : Nat → Int} {k i : Nat} (h : i < cn c k) : cp c k i < k ∧ c (cp c k i) ≠ 32 ∧ cn c (cp c k i) = i := by
  induction k with
  | zero => exact absurd h (by unfold cn; omega)
  | succ k ih =>
    rw [cp_s]
    split
    next e => exact ⟨by omega, e.1, e.2⟩
    next e =>
      have h2 : i < cn c k := by
        rw [cn_s] at h
        by_cases e2 : c k = 32
        · rw [if_pos e2] at h; omega
        · rw [if_neg e2] at h
          by_cases e3 : cn c k = i
          · exact absurd ⟨e2, e3⟩ e
          · omega
      have := ih h2
      exact ⟨by omega, this.2⟩
theorem cp_ext {c c' : Nat → Int} {n : Nat} (h : ∀ k, k < n → c k = c' k) : ∀ k, k ≤ n → cn c k = cn c' k ∧ ∀ i, cp c k i = cp c' k i := by
  intro k
  induction k with
  | zero => intro _; exact ⟨rfl, fun _ => rfl⟩
  | succ k ih =>
    intro hk
    have i1 := ih (by omega)
    rw [cn_s, cn_s, h k (by omega), i1.1]
    refine ⟨rfl, fun i => ?_⟩
    rw [cp_s, cp_s, h k (by omega), i1.1, i1.2 i]
/-- the last place of a letter is its own -/
theorem cp_of {c : Nat → Int} {k q : Nat} (h : q < k) (hc : c q ≠ 32) : cp c k (cn c q) = q := by
  induction k with
  | zero => omega
  | succ k ih =>
    rw [cp_s]
    by_cases e : q = k
    · subst e; rw [if_pos ⟨hc, rfl⟩]
    · have h1 : cn c q < cn c k := by
        have := cn_mono (c := c) (show q + 1 ≤ k by omega)
        rw [cn_s, if_neg hc] at this; omega
      rw [if_neg (by omega)]
      exact ih (by omega)
abbrev Lc (c : Nat → Int) (i : Nat) : Nat := cp c 80 i
abbrev Nc (c : Nat → Int) : Nat := cn c 80
theorem Lc_inj {c : Nat → Int} {i j : Nat} (hi : i < Nc c) (hj : j < Nc c) (h : Lc c i = Lc c j) : i = j := by
  have h1 := (cp_ok hi).2.2
  have h2 := (cp_ok hj).2.2
  unfold Lc at h
  rw [← h1, ← h2, h]
/-- codes and settings as they may be -/
def GC (c : Nat → Int) : Prop := (∀ k, k < 80 → c k = 32 ∨ 97 ≤ c k ∧ c k ≤ 122) ∧ cn c 80 ≤ 40
def GS (st : Nat → Int) : Prop := (1 ≤ st 0 ∧ st 0 ≤ 9) ∧ (0 ≤ st 1 ∧ st 1 ≤ 200) ∧ (0 ≤ st 2 ∧ st 2 ≤ 200) ∧ (0 ≤ st 3 ∧ st 3 ≤ 1) ∧ (0 ≤ st 4 ∧ st 4 ≤ 2) ∧ (0 ≤ st 5 ∧ st 5 ≤ 9) ∧ (0 ≤ st 6 ∧ st 6 ≤ 20) ∧ 0 ≤ st 7 ∧ st 7 ≤ 20
def st0 (k : Nat) : Int := if k = 0 then 2 else if k = 1 then 60 else if k = 2 then 12 else if k = 5 then 3 else if k = 6 then 2 else if k = 7 then 2 else 0
/-- a text at t: its cells' kinds, and what it holds -/
def Tk (h : AH) (t : Nat) : Prop := hkd h t = (9, 0) ∧ hkd h (t + 1) = (1, 80) ∧ hkd h (t + 2) = (1, 40) ∧ hfR h t 0 = some (t + 1) ∧ hfR h t 1 = some (t + 2) ∧ hlo h ≤ t
def Tx (h : AH) (t : Nat) (c : Nat → Int) : Prop := Tk h t ∧ (∀ k : Nat, k < 80 → haI h (t + 1) k = c k) ∧ hfI h t 2 = (Nc c : Int) ∧ ∀ k : Nat, k < Nc c → haI h (t + 2) k = (Lc c k : Int)
theorem Tk.fr {h h' : AH} {a b t : Nat} (T : Tk h t) (F : Fr h h' a b) : Tk h' t := by
  unfold Tk at *; rw [F.kd, F.rf, F.lo]; exact T
theorem Tx.fr {h h' : AH} {a b t : Nat} {c : Nat → Int} (T : Tx h t c) (F : Fr h h' a b) (ht : t + 2 < a ∨ b ≤ t) : Tx h' t c := by
  obtain ⟨T1, T2, T3, T4⟩ := T
  refine ⟨T1.fr F, fun k hk => ?_, ?_, fun k hk => ?_⟩
  · rw [F.ai (by omega)]; exact T2 k hk
  · rw [F.fi (by omega)]; exact T3
  · rw [F.ai (by omega)]; exact T4 k hk
theorem m_numberLetters {zz : Nat → Nat} {t : Nat} {h : AH} {Q : AH → Prop} {c : Nat → Int} (T : Tk h t) (hc : ∀ k : Nat, k < 80 → haI h (t + 1) k = c k) (h40 : Nc c ≤ 40) (q : ∀ f : Int → Int, (∀ i : Nat, i < Nc c → f i = (Lc c i : Int)) → Q (saI (sfI h t 2 (Nc c : Int)) (t + 2) f)) : w_X5_numberLetters zz t h Q := by
  obtain ⟨k0, k1, k2, r0, r1, l0⟩ := T
  unfold w_X5_numberLetters
  refine ⟨by rw [okP_of k0]; exact ⟨rfl, l0⟩, ?_⟩
  intro h2 e2
  obtain ⟨I, hI⟩ : ∃ I : Nat → Int → AH → Prop, ∀ m x h', I m x h' ↔ ∃ (k : Nat) (f : Int → Int), k ≤ 80 ∧ m = 80 - k ∧ x = (k : Int) ∧ h' = saI (sfI h t 2 (cn c k : Int)) (t + 2) f ∧ ∀ i : Nat, i < cn c k → f i = (cp c k i : Int) := ⟨_, fun _ _ _ => Iff.rfl⟩
  refine ⟨I, ⟨80, (hI _ _ _).mpr ⟨0, haI h (t + 2), by omega, by omega, rfl, ?_, fun i hi => absurd hi (by unfold cn; omega)⟩⟩, ?_⟩
  · rw [e2, show haI h (t + 2) = haI (sfI h t 2 ((cn c 0 : Nat) : Int)) (t + 2) from rfl, saI_self]; rfl
  · intro m x h' hi
    obtain ⟨k, f, hk, rfl, rfl, rfl, hf⟩ := (hI _ _ _).mp hi
    refine ⟨fun hc9 => ?_, fun hc9 => ?_⟩
    · obtain rfl : k = 80 := by omega
      exact q f hf
    · have hk8 : k < 80 := by omega
      have m1 := cn_mono (c := c) (show k + 1 ≤ 80 by omega)
      have m2 := cn_mono (c := c) (show k ≤ 80 by omega)
      have hck := hc k hk8
      have e1 := cn_s (c := c) (k := k)
      simp only [hkd_sfI, hkd_sfR, hkd_sfL, hkd_saI, hkd_saR, hkd_saL, hkd_nGb, hlo_sfI, hlo_sfR, hlo_sfL, hlo_saI, hlo_saR, hlo_saL, hlo_nGb, hfR_sfI, hfR_sfL, hfR_saI, hfR_saR, hfR_saL, hfR_nGb, hfI_sfR, hfI_sfL, hfI_saI, hfI_saR, hfI_saL, hfI_nGb, haI_sfI, haI_sfR, haI_sfL, haI_saR, haI_saL, haI_nGb, haR_sfI, haR_sfR, haR_saI, haR_nGb, haL_sfI, haL_saI, hfL_sfI, hfL_saI, hfI_sfI, hfR_sfR, hfL_sfL, haI_saI, haR_saR, haL_saL, okA, okP, okI, okW, okJ, okV, okQ, okU, okC, jn_def, pair_ex, some_ex, forall_eq, k0, k1, k2, r0, r1, hck, inR, if_true, if_false, true_and, and_true, Nat.reduceAdd, Nat.reduceEqDiff, Nat.add_left_cancel_iff, Nat.add_eq_left, Nat.left_eq_add, l0, sfI_saI, saI_saI, sfI_sfI]
      refine ⟨⟨by omega, by omega⟩, fun hb => ⟨⟨by omega, by omega⟩, 80 - (k + 1), by omega, (hI _ _ _).mpr ⟨k + 1, f, by omega, rfl, by omega, ?_, ?_⟩⟩, fun hb => ⟨fun h9 => ?_, fun h9 => ?_⟩⟩
      · rw [e1, if_pos hb]; rfl
      · intro i hi
        rw [e1, if_pos hb] at hi
        rw [cp_s, if_neg (fun h => h.1 hb)]; exact hf i (by omega)
      · rw [if_neg hb] at e1
        have : cn c 80 ≤ 40 := h40
        omega
      · rw [if_neg hb] at e1
        refine ⟨⟨by omega, by omega, by omega⟩, ⟨by omega, by omega⟩, ⟨by omega, by omega⟩, 80 - (k + 1), by omega, (hI _ _ _).mpr ⟨k + 1, u1 f (cn c k) k, by omega, rfl, by omega, ?_, ?_⟩⟩
        · rw [e1]; rfl
        · intro i hi
          rw [cp_s, u1_apply]
          by_cases h5 : cn c k = i
          · rw [if_pos (by omega), if_pos ⟨hb, h5⟩]
          · rw [if_neg (by omega), if_neg (fun h => h5 h.2)]
            exact hf i (by omega)
theorem cn_blank {c : Nat → Int} {n : Nat} (h : ∀ k, k < n → c k = 32) : cn c n = 0 := by
  induction n with
  | zero => rfl
  | succ n ih => rw [cn_s, ih (fun k hk => h k (by omega)), if_pos (h n (by omega))]
/-- the text's cells after a clear -/
theorem Tx_clear {h : AH} {t : Nat} (T : Tk h t) : Tx (sfI (saI h (t + 1) (flA 32 80 (haI h (t + 1)))) t 2 0) t (fun _ => 32) := by
  have e : Nc (fun _ => 32) = 0 := cn_blank (fun _ _ => rfl)
  refine ⟨T, fun k hk => ?_, ?_, fun k hk => by rw [e] at hk; omega⟩
  · show haI (saI h (t + 1) _) (t + 1) k = 32
    rw [haI_saI, if_pos rfl]; unfold flA; rw [if_pos (by omega)]
  · rw [hfI_sfI, if_pos rfl, if_pos rfl, e]; rfl
theorem m_takeCodes {zz : Nat → Nat} {t a n : Nat} {h : AH} {Q : AH → Prop} {c : Nat → Int} (T : Tk h t) (ha : hkd h a = (1, n)) (hn1 : 80 ≤ n) (hc : ∀ k : Nat, k < 80 → haI h a k = c k) (h40 : Nc c ≤ 40) (q : ∀ h' : AH, Fr h h' t (t + 3) → Tx h' t c → Q h') : w_X5_takeCodes zz t a h Q := by
  have T0 := T
  obtain ⟨k0, k1, k2, r0, r1, l0⟩ := T
  unfold w_X5_takeCodes
  simp only [okA, okP, okI, okW, okJ, okV, okQ, okU, okC, jn_def, pair_ex, some_ex, forall_eq, ha, k0, k1, r0, true_and, Nat.reduceAdd, hkd_saI]
  have cm : ∀ P : Nat → Nat → Prop, P n 80 → ∃ na nb : Nat, ((1, n) : Nat × Nat) = (1, na) ∧ ((1, 80) : Nat × Nat) = (1, nb) ∧ P na nb := fun P hp => ⟨n, 80, rfl, rfl, hp⟩
  refine ⟨⟨n, 80, rfl, ⟨rfl, by omega⟩, by omega, by omega, by omega, by omega, by omega⟩, ?_⟩
  refine m_numberLetters (c := c) T0 (fun k hk => ?_) h40 (fun f hf => q _ ?_ ?_)
  · rw [haI_saI, if_pos rfl]; unfold cpI
    simp only [Int.zero_add, Int.sub_zero, Int.add_zero]
    rw [if_pos (by omega)]; exact hc k hk
  · exact ((Fr.sa (by omega) (by omega)).trans (Fr.sf (by omega) (by omega))).trans (Fr.sa (by omega) (by omega))
  · refine ⟨T0, fun k hk => ?_, ?_, fun k hk => ?_⟩
    · rw [haI_saI, if_neg (by omega), haI_sfI, haI_saI, if_pos rfl]; unfold cpI
      simp only [Int.zero_add, Int.sub_zero, Int.add_zero]
      rw [if_pos (by omega)]; exact hc k hk
    · rw [hfI_saI, hfI_sfI, if_pos rfl, if_pos rfl]
    · rw [haI_saI, if_pos rfl]; exact hf k hk
theorem m_write {zz : Nat → Nat} {t k : Nat} {v : Int} {h : AH} {Q : AH → Prop} {c c' : Nat → Int} (T : Tx h t c) (hk : k < 80) (hc' : ∀ j, j < 80 → c' j = if j = k then v else c j) (h40 : Nc c' ≤ 40) (q : ∀ h' : AH, Fr h h' t (t + 3) → Tx h' t c' → Q h') : w_X5_write zz t (k : Int) v h Q := by
  obtain ⟨T0, T2, T3, T4⟩ := T
  have T1 := T0
  obtain ⟨k0, k1, k2, r0, r1, l0⟩ := T1
  unfold w_X5_write
  simp only [hkd_sfI, hkd_sfR, hkd_sfL, hkd_saI, hkd_saR, hkd_saL, hkd_nGb, hlo_sfI, hlo_sfR, hlo_sfL, hlo_saI, hlo_saR, hlo_saL, hlo_nGb, hfR_sfI, hfR_sfL, hfR_saI, hfR_saR, hfR_saL, hfR_nGb, hfI_sfR, hfI_sfL, hfI_saI, hfI_saR, hfI_saL, hfI_nGb, haI_sfI, haI_sfR, haI_sfL, haI_saR, haI_saL, haI_nGb, haR_sfI, haR_sfR, haR_saI, haR_nGb, haL_sfI, haL_saI, hfL_sfI, hfL_saI, hfI_sfI, hfR_sfR, hfL_sfL, haI_saI, haR_saR, haL_saL, okA, okP, okI, okW, okJ, okV, okQ, okU, okC, jn_def, pair_ex, some_ex, forall_eq, k0, k1, r0, true_and, Nat.reduceAdd]
  refine ⟨⟨by omega, by omega, by omega⟩, ?_⟩
  refine m_numberLetters (c := c') T0 (fun j hj => ?_) h40 (fun f hf => q _ ?_ ?_)
  · rw [haI_saI, if_pos rfl, u1_apply, hc' j hj]
    by_cases e : j = k
    · rw [if_pos (by omega), if_pos e]
    · rw [if_neg (by omega), if_neg e]; exact T2 j hj
  · exact ((Fr.sa (by omega) (by omega)).trans (Fr.sf (by omega) (by omega))).trans (Fr.sa (by omega) (by omega))
  · refine ⟨T0, fun j hj => ?_, ?_, fun j hj => ?_⟩
    · rw [haI_saI, if_neg (by omega), haI_sfI, haI_saI, if_pos rfl, u1_apply, hc' j hj]
      by_cases e : j = k
      · rw [if_pos (by omega), if_pos e]
      · rw [if_neg (by omega), if_neg e]; exact T2 j hj
    · rw [hfI_saI, hfI_sfI, if_pos rfl, if_pos rfl]
    · rw [haI_saI, if_pos rfl]; exact hf j hj
theorem m_tcopy {zz : Nat → Nat} {t u : Nat} {h : AH} {Q : AH → Prop} {c : Nat → Int} (T : Tk h t) (U : Tx h u c) (h40 : Nc c ≤ 40) (hd : u + 2 < t ∨ t + 2 < u) (q : ∀ h' : AH, Fr h h' t (t + 3) → Tx h' t c → Q h') : w_X5_copyFrom zz t u h Q := by
  have T0 := T
  obtain ⟨k0, k1, k2, r0, r1, l0⟩ := T
  obtain ⟨⟨j0, j1, j2, s0, s1, l1⟩, U2, U3, U4⟩ := U
  unfold w_X5_copyFrom
  simp only [okA, some_ex, forall_eq, hkd_saI, hkd_sfI, hfR_saI, hfR_sfI, k0, k1, k2, r0, r1, j0, j1, j2, s0, s1, true_and, Nat.reduceAdd]
  refine ⟨⟨80, 80, j1, ⟨k1, by omega⟩, by omega, by omega, by omega, by omega, by omega⟩, ⟨40, 40, j2, ⟨k2, ?_⟩, by omega, by omega, by omega, by omega, by omega⟩, ⟨?_, ?_⟩, ?_⟩
  · rw [hlo_saI]; omega
  · rw [hkd_saI, hkd_saI, k0]
  · rw [hlo_saI, hlo_saI]; exact l0
  refine q _ (((Fr.sa (by omega) (by omega)).trans (Fr.sa (by omega) (by omega))).trans (Fr.sf (by omega) (by omega))) ⟨T0, fun k hk => ?_, ?_, fun k hk => ?_⟩
  · rw [haI_sfI, haI_saI, if_neg (by omega), haI_saI, if_pos rfl]; unfold cpI
    simp only [Int.zero_add, Int.sub_zero, Int.add_zero]
    rw [if_pos (by omega)]; exact U2 k hk
  · rw [hfI_sfI, if_pos rfl, if_pos rfl, hfI_saI, hfI_saI]; exact U3
  · rw [haI_sfI, haI_saI, if_pos rfl, haI_saI, if_neg (by omega)]; unfold cpI
    simp only [Int.zero_add, Int.sub_zero, Int.add_zero]
    rw [if_pos (by omega)]; exact U4 k hk
theorem txt0 {zz : Nat → Nat} {s : Nat} {h : AH} {Q : Nat → AH → Prop} : w_X4_text zz s (0 : Int) h Q = (okA h s 4 ∧ ∃ b : Nat, hfR h s 1 = some b ∧ Q b h) := by
  unfold w_X4_text jn; simp
theorem txt1 {zz : Nat → Nat} {s : Nat} {h : AH} {Q : Nat → AH → Prop} : w_X4_text zz s (1 : Int) h Q = (okA h s 4 ∧ ∃ b : Nat, hfR h s 2 = some b ∧ Q b h) := by
  unfold w_X4_text jn; simp
/-- a state at s, its texts at t0 and t1 -/
def SK (h : AH) (s t0 t1 : Nat) : Prop := hkd h s = (8, 0) ∧ hkd h (s + 1) = (1, 8) ∧ hfR h s 0 = some (s + 1) ∧ hfR h s 1 = some t0 ∧ hfR h s 2 = some t1 ∧ hlo h ≤ s ∧ (t0 = s + 2 ∧ t1 = s + 5 ∨ t0 = s + 5 ∧ t1 = s + 2)
def Sg (h : AH) (s : Nat) (st : Nat → Int) : Prop := ∀ k : Nat, k < 8 → haI h (s + 1) k = st k
def St (h : AH) (s t0 t1 : Nat) (c0 c1 st : Nat → Int) : Prop := SK h s t0 t1 ∧ Tx h t0 c0 ∧ Tx h t1 c1 ∧ Sg h s st
def Zs (h : AH) (zz : Nat → Nat) : Prop := (∀ k, k < 3 → hkd h (zz k) = (1, 8) ∧ zz k < hlo h) ∧ (∀ k : Nat, k < 8 → haI h (zz 0) k = if k = 0 then 1 else 0) ∧ (∀ k : Nat, k < 8 → haI h (zz 1) k = if k = 0 then 9 else if k < 3 then 200 else if k = 3 then 1 else if k = 4 then 2 else if k = 5 then 9 else 20) ∧ ∀ k : Nat, k < 8 → haI h (zz 2) k = st0 k
theorem SK.fr {h h' : AH} {a b s t0 t1 : Nat} (T : SK h s t0 t1) (F : Fr h h' a b) : SK h' s t0 t1 := by
  unfold SK at *; rw [F.kd, F.rf, F.lo]; exact T
theorem St.fr {h h' : AH} {a b s t0 t1 : Nat} {c0 c1 st : Nat → Int} (T : St h s t0 t1 c0 c1 st) (F : Fr h h' a b) (ht : s + 7 < a ∨ b ≤ s) : St h' s t0 t1 c0 c1 st := by
  obtain ⟨T1, T2, T3, T4⟩ := T
  have hp := T1.2.2.2.2.2.2
  refine ⟨T1.fr F, T2.fr F (by omega), T3.fr F (by omega), fun k hk => ?_⟩
  rw [F.ai (by omega)]; exact T4 k hk
theorem Zs.fr {h h' : AH} {a b : Nat} {zz : Nat → Nat} (Z : Zs h zz) (F : Fr h h' a b) (ha : hlo h ≤ a) : Zs h' zz := by
  obtain ⟨Z1, Z2, Z3, Z4⟩ := Z
  have z0 := (Z1 0 (by omega)).2
  have z1 := (Z1 1 (by omega)).2
  have z2 := (Z1 2 (by omega)).2
  refine ⟨fun k hk => by rw [F.kd, F.lo]; exact Z1 k hk, fun k hk => ?_, fun k hk => ?_, fun k hk => ?_⟩
  · rw [F.ai (by omega)]; exact Z2 k hk
  · rw [F.ai (by omega)]; exact Z3 k hk
  · rw [F.ai (by omega)]; exact Z4 k hk
theorem m_scopy {zz : Nat → Nat} {s t0 t1 r u0' u1' : Nat} {h : AH} {Q : AH → Prop} {c0 c1 st : Nat → Int} (T : SK h s t0 t1) (K0 : Tk h t0) (K1 : Tk h t1) (U : St h r u0' u1' c0 c1 st) (hc0 : Nc c0 ≤ 40) (hc1 : Nc c1 ≤ 40) (hd : r + 7 < s ∨ s + 7 < r) (q : ∀ h' : AH, Fr h h' s (s + 8) → St h' s t0 t1 c0 c1 st → Q h') : w_X4_copyFrom zz s r h Q := by
  have hp := T.2.2.2.2.2.2
  have hp2 := U.1.2.2.2.2.2.2
  have l0 := T.2.2.2.2.2.1
  unfold w_X4_copyFrom
  refine ⟨by rw [okA_of T.1], t0, T.2.2.2.1, by rw [okA_of U.1.1], u0', U.1.2.2.2.1, by rw [okA_of K0.1], ?_⟩
  refine m_tcopy K0 U.2.1 hc0 (by omega) (fun h1 F1 X0 => ?_)
  have F1' := F1.wide (show s ≤ t0 by omega) (show t0 + 3 ≤ s + 8 by omega)
  have T1 := T.fr F1
  have U1 := U.fr F1' (by omega)
  have K1' := K1.fr F1
  refine ⟨by rw [okA_of T1.1], t1, T1.2.2.2.2.1, by rw [okA_of U1.1.1], u1', U1.1.2.2.2.2.1, by rw [okA_of K1'.1], ?_⟩
  refine m_tcopy K1' U1.2.2.1 hc1 (by omega) (fun h2 F2 X1 => ?_)
  have F3 := F1'.trans (F2.wide (show s ≤ t1 by omega) (show t1 + 3 ≤ s + 8 by omega))
  have T2 := T.fr F3
  have U2 := U.fr F3 (by omega)
  refine ⟨by rw [okA_of U2.1.1], r + 1, U2.1.2.2.1, by rw [okA_of T2.1], s + 1, T2.2.2.1, ?_⟩
  refine ⟨⟨8, 8, U2.1.2.1, ⟨T2.2.1, by have := T2.2.2.2.2.2.1; omega⟩, by omega, by omega, by omega, by omega, by omega⟩, ?_⟩
  intro h3 e3
  have F4 : Fr h2 h3 (s + 1) (s + 2) := by rw [e3]; exact Fr.sa (by omega) (by omega)
  refine q h3 (F3.trans (F4.wide (by omega) (by omega))) ⟨T2.fr F4, (X0.fr F2 (by omega)).fr F4 (by omega), X1.fr F4 (by omega), fun k hk => ?_⟩
  rw [e3, haI_saI, if_pos rfl]; unfold cpI
  simp only [Int.zero_add, Int.sub_zero, Int.add_zero]
  rw [if_pos (by omega)]; exact U2.2.2.2 k hk
