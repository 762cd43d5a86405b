/-! THE PURE LAYER, 24c -/
theorem c_mixFrames {zz : Nat → Nat} {x F : Nat} {a : Int64} {h : AH} {Q : Int64 → AH → Prop} {D : DT} (C : CF1 h zz x D F) (q : ∀ h' : AH, Ga h h' x (x + 113) → CF1 h' zz x D F → Q (dg3 D F a) h') : w_X6_mixFrames zz x a h Q := by
  have C0 := C
  have iF := C.isFF
  obtain ⟨C, u0, u1, A⟩ := C
  have T := C.1
  have nb := nFr_bd (c0 := D.1.1) (c1 := D.1.2.1) (F := F) C.2.2.2.1.2.2 C.2.2.2.1.1.2 C.2.2.2.1.2.1.2 iF.2
  unfold w_X6_mixFrames w_X6_mix
  refine ⟨by rw [okA_of T.1], x + 9, T.2.2.1, by rw [okA_of A.2.2.2.1.1], m_frames A ?_⟩
  obtain ⟨N, hN⟩ : ∃ N : Nat, nFr D.1.1 D.1.2.1 D.1.2.2 F = (N : Int) := ⟨_, (Int.toNat_of_nonneg (by omega)).symm⟩
  unfold dg3 at q
  rw [hN] at nb
  rw [hN] at q
  rw [show ((N : Nat) : Int).toNat = N from rfl] at q
  rw [hN]
  clear A T C u0 u1
  obtain ⟨I, hI⟩ : ∃ I : Nat → Int64 → Int → AH → Prop, ∀ m y i h', I m y i h' ↔ ∃ k : Nat, k ≤ N * 5 ∧ m = N * 5 - k ∧ i = (k : Int) ∧ y = fo (fun k => fraA D.1.1 D.1.2.1 D.1.2.2 F ((k : Int) / 5) ((k : Int) % 5)) k a ∧ Ga h h' x (x + 113) ∧ CF1 h' zz x D F := ⟨_, fun _ _ _ _ => Iff.rfl⟩
  refine ⟨I, ⟨N * 5, (hI _ _ _ _).mpr ⟨0, by omega, rfl, rfl, rfl, Ga.refl _ _ _, C0⟩⟩, ?_⟩
  intro m y i g hi9
  obtain ⟨k, hk, rfl, rfl, rfl, Gg, Cg⟩ := (hI _ _ _ _).mp hi9
  refine ⟨by unfold inR; omega, fun hc => ?_, fun hc => ?_⟩
  · obtain rfl : k = N * 5 := by omega
    obtain ⟨J, hJ⟩ : ∃ J : Nat → Int64 → Int → AH → Prop, ∀ m y i h', J m y i h' ↔ ∃ k : Nat, k ≤ 80 ∧ m = 80 - k ∧ i = (k : Int) ∧ y = fo (fun k => shA D.1.1 D.1.2.1 D.1.2.2 F (((N : Int) - 1) / 2) k) k (fo (fun k => fraA D.1.1 D.1.2.1 D.1.2.2 F ((k : Int) / 5) ((k : Int) % 5)) (N * 5) a) ∧ Ga h h' x (x + 113) ∧ CF1 h' zz x D F := ⟨_, fun _ _ _ _ => Iff.rfl⟩
    refine ⟨J, ⟨80, (hJ _ _ _ _).mpr ⟨0, by omega, rfl, rfl, rfl, Gg, Cg⟩⟩, ?_⟩
    clear hi9 Gg Cg
    intro m y i g hi9
    obtain ⟨k, hk, rfl, rfl, rfl, Gg, Cg⟩ := (hJ _ _ _ _).mp hi9
    refine ⟨fun hc => ?_, fun hc => ?_⟩
    · obtain rfl : k = 80 := by omega
      exact q g Gg Cg
    · have Cg0 := Cg
      obtain ⟨Cg, u0, u1, A⟩ := Cg
      refine ⟨by rw [okA_of Cg.1.1], x + 9, Cg.1.2.2.1, by unfold inR; omega, ⟨by omega, by omega⟩, by rw [okA_of A.2.2.2.1.1], ?_⟩
      refine m_codeShown A (by omega) (by omega) (fun g2 F2 => ⟨by unfold inR; omega, ?_⟩)
      intro y2 e2
      exact ⟨80 - (k + 1), by omega, (hJ _ _ _ _).mpr ⟨k + 1, by omega, rfl, by omega, rfl, Gg.trans (F2.ga (by omega) (by omega)), Cg0.fr F2 (by omega)⟩⟩
  · have Cg0 := Cg
    obtain ⟨Cg, u0, u1, A⟩ := Cg
    refine ⟨by rw [okA_of Cg.1.1], x + 9, Cg.1.2.2.1, ⟨by omega, by omega⟩, ⟨by omega, by omega⟩, by rw [okA_of A.2.2.2.1.1], ?_⟩
    refine m_frameP A (by omega) (by omega) (fun g2 F2 => ⟨by unfold inR; omega, ?_⟩)
    intro y2 e2
    exact ⟨N * 5 - (k + 1), by omega, (hI _ _ _ _).mpr ⟨k + 1, by omega, rfl, by omega, rfl, Gg.trans (F2.ga (by omega) (by omega)), Cg0.fr F2 (by omega)⟩⟩
