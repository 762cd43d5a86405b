/-! THE PURE LAYER, 22: best -/
theorem mst_p0 {n : Nat} {gl : Nat → Int} {w : Int} {t : Nat} {z : MT} {k : Nat} (h : ∀ j, z.2.1 j = 0) (hc : z.2.2.2.2 = 0) : (∀ j, (mst n gl w 0 t z k).2.1 j = 0) ∧ (mst n gl w 0 t z k).2.2.2.2 = 0 ∧ (mst n gl w 0 t z k).2.2.1 = z.2.2.1 := by
  unfold mst
  split
  · rw [if_neg (fun hh => by have := hh.2; rw [h k] at this; omega)]
    refine ⟨fun j => ?_, hc, rfl⟩
    show un z.2.1 k 0 j = 0
    by_cases e : j = k
    · rw [e, un_s]
    · rw [un_n e]; exact h j
  · exact ⟨h, hc, rfl⟩
theorem msw_p0 {n : Nat} {gl : Nat → Int} {w : Int} {t : Nat} {z : MT} (h : ∀ j, z.2.1 j = 0) (hc : z.2.2.2.2 = 0) : ∀ k, (∀ j, (msw n gl w 0 t z k).2.1 j = 0) ∧ (msw n gl w 0 t z k).2.2.2.2 = 0 ∧ (msw n gl w 0 t z k).2.2.1 = z.2.2.1 := by
  intro k
  induction k with
  | zero => exact ⟨h, hc, rfl⟩
  | succ k ih =>
    have := mst_p0 (n := n) (gl := gl) (w := w) (t := t) (k := k) ih.1 ih.2.1
    exact ⟨this.1, this.2.1, this.2.2.trans ih.2.2⟩
theorem mfr_p0 {n : Nat} {gl s0 : Nat → Int} {w : Int} : ∀ t, (∀ j, (mfr n gl s0 w 0 t).2.1 j = 0) ∧ (mfr n gl s0 w 0 t).2.2.2.2 = 0 ∧ (∀ j, (mfr n gl s0 w 0 t).2.2.1 j = 0) := by
  intro t
  induction t with
  | zero => exact ⟨fun _ => rfl, rfl, fun _ => rfl⟩
  | succ t ih =>
    have := msw_p0 (n := n) (gl := gl) (w := w) (t := t + 1) (z := mrs (mfr n gl s0 w 0 t)) ih.1 rfl n
    exact ⟨this.1, this.2.1, fun j => by show (msw n gl w 0 (t + 1) (mrs (mfr n gl s0 w 0 t)) n).2.2.1 j = 0; rw [this.2.2]; exact ih.2.2 j⟩
theorem mht_p0 {n : Nat} {gl s0 : Nat → Int} {w : Int} : ∀ t, mht n gl s0 w 0 t = 0 := by
  intro t
  induction t with
  | zero => rfl
  | succ t ih =>
    show mht n gl s0 w 0 t + (mfr n gl s0 w 0 (t + 1)).2.2.2.2 = 0
    rw [ih, (mfr_p0 (t + 1)).2.1]
set_option maxHeartbeats 2000000 in
theorem c_best {zz : Nat → Nat} {x : Nat} {h : AH} {Q : Int → AH → Prop} {D : DT} (C : CR h zz x D) (q : ∀ h' : AH, Fr h h' (x + 31) (x + 61) → Q 0 h') : w_X6_best zz x h Q := by
  obtain ⟨T, Z, ⟨t0, t1, S⟩, G, B, n1, n2, ⟨pm, V⟩, W⟩ := C
  have lo := T.2.2.2.2.2.2.2.2.1
  obtain ⟨s1, s2, s3⟩ := T.2.2.2.2.2.2.2.2.2.2.1
  unfold w_X6_best
  refine ⟨by rw [okA_of T.1], x + 31, T.2.2.2.1, by rw [okA_of T.1], x + 1, T.2.1, by rw [okA_of s1.1], ?_⟩
  refine m_scopy s1 s2 s3 S G.1.2 G.2.1.2 (by omega) (fun g F1 S1 => ?_)
  have T1 := T.fr F1
  have lo1 := T1.2.2.2.2.2.2.2.2.1
  obtain ⟨I, hI⟩ : ∃ I : Nat → Int → Int → Int → Int → AH → Prop, ∀ m x1 x2 x3 x4 h', I m x1 x2 x3 x4 h' ↔ (m = 1 ∧ x1 = -1 ∧ x2 = 0 ∧ x3 = -1 ∧ x4 = 0 ∧ h' = g) ∨ (m = 0 ∧ x1 = 0 ∧ x3 = 0 ∧ x4 = 1 ∧ Fr h h' (x + 31) (x + 61)) := ⟨_, fun _ _ _ _ _ _ => Iff.rfl⟩
  refine ⟨I, ⟨1, (hI _ _ _ _ _ _).mpr (.inl ⟨rfl, rfl, rfl, rfl, rfl, rfl⟩)⟩, ?_⟩
  intro m x1 x2 x3 x4 h' hi9
  rw [jn_def]
  rcases (hI _ _ _ _ _ _).mp hi9 with ⟨rfl, rfl, rfl, rfl, rfl, rfl⟩ | ⟨rfl, rfl, rfl, rfl, F9⟩
  · refine ⟨fun h => absurd h (by omega), fun _ => ⟨fun h => absurd h (by omega), fun _ => ?_⟩⟩
    refine ⟨by rw [okA_of T1.1], x + 31, T1.2.2.2.1, by rw [okA_of S1.1.1], x + 31 + 1, S1.1.2.2.1, ⟨by omega, by omega⟩, by rw [okW_of S1.1.2.1]; exact ⟨by omega, by omega, by omega⟩, ?_⟩
    intro g2 e2
    have F2 : Fr h' g2 (x + 32) (x + 33) := by rw [e2]; exact Fr.sa (by omega) (by omega)
    have T2 := T1.fr F2
    have S2 : St g2 (x + 31) (x + 33) (x + 36) D.1.1 D.1.2.1 (un D.1.2.2 4 0) := by
      refine ⟨S1.1.fr F2, S1.2.1.fr F2 (by omega), S1.2.2.1.fr F2 (by omega), fun j hj => ?_⟩
      rw [e2, haI_saI, if_pos rfl, u1_apply, S1.2.2.2 j hj]
      exact u1_un (k := 4)
    refine ⟨by rw [okA_of T2.1], x + 31, T2.2.2.2.1, by rw [okA_of S2.1.1], x + 31 + 1, S2.1.2.2.1, ⟨by omega, by omega⟩, by rw [okW_of S2.1.2.1]; exact ⟨by omega, by omega, by have := T2.2.2.2.2.2.2.2.2.1; omega⟩, ?_⟩
    intro g3 e3
    have F3 : Fr g2 g3 (x + 32) (x + 33) := by rw [e3]; exact Fr.sa (by omega) (by omega)
    have T3 := T2.fr F3
    obtain ⟨st, hst⟩ : ∃ st, st = un (un D.1.2.2 4 0) 5 0 := ⟨_, rfl⟩
    have S3 : St g3 (x + 31) (x + 33) (x + 36) D.1.1 D.1.2.1 st := by
      refine ⟨S2.1.fr F3, S2.2.1.fr F3 (by omega), S2.2.2.1.fr F3 (by omega), fun j hj => ?_⟩
      rw [e3, haI_saI, if_pos rfl, u1_apply, S2.2.2.2 j hj, hst]
      exact u1_un (k := 5)
    have g4 : GS (un D.1.2.2 4 0) := GS_un G.2.2 (by omega) (by unfold lowV topV; decide)
    have g5 : GS st := by rw [hst]; exact GS_un g4 (by omega) (by unfold lowV topV; decide)
    have st5 : st 5 = 0 := by rw [hst, un_s]
    obtain ⟨p1, p2, p3⟩ := T3.2.2.2.2.2.2.2.2.2.2.2.2.1
    refine ⟨by rw [okA_of T3.1], x + 39, T3.2.2.2.2.1, by rw [okA_of p3.1], ?_⟩
    refine m_work S3 p1 p2 p3 g5 G.1.2 G.2.1.2 (fun F g6 F6 W6 => ?_)
    have T6 := T3.fr F6
    have A6 : WA g6 (x + 31) (x + 33) (x + 36) D.1.1 D.1.2.1 st F := ⟨S3.fr F6 (by omega), p1.fr F6, p2.fr F6, p3.fr F6, W6, g5, G.1, G.2.1⟩
    have X6 := A6.2.2.2.1
    have M6 := A6.2.2.1
    have FF : Fr h g6 (x + 31) (x + 61) := (F1.wide (by omega) (by omega)).trans ((F2.wide (by omega) (by omega)).trans ((F3.wide (by omega) (by omega)).trans (F6.wide (by omega) (by omega))))
    refine ⟨by rw [okA_of T6.1], x + 39, T6.2.2.2.2.1, by rw [okA_of X6.1], m_frames A6 ?_⟩
    refine ⟨by rw [okA_of T6.1], x + 39, T6.2.2.2.2.1, by rw [okA_of X6.1], x + 52, X6.2.2.2.2.2.2.2.1, by rw [okA_of M6.1], ?_⟩
    intro y hy
    have e4 : hfI g6 (x + 52) 4 = 0 := by
      have e := W6.2.2.1.2.2.1.1
      rw [st5, mht_p0] at e
      exact e
    rw [e4] at hy
    subst hy
    rw [jn_def, jn_def]
    refine ⟨fun _ => ⟨by unfold inR; omega, ?_⟩, fun h => absurd rfl h⟩
    intro y2 ey2
    exact ⟨0, by omega, (hI _ _ _ _ _ _).mpr (.inr ⟨rfl, rfl, rfl, by omega, FF⟩)⟩
  · exact ⟨fun _ => q h' F9, fun _ => ⟨fun _ => q h' F9, fun h => absurd rfl h⟩⟩
