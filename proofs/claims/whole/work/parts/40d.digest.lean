/-! THE PURE LAYER, 24d -/
theorem c_digest {zz : Nat → Nat} {x : Nat} {h : AH} {Q : Int64 → AH → Prop} {D : DT} (C : CR h zz x D) (q : ∀ (F : Nat) (h' : AH), isFF D.1.1 D.1.2.1 D.1.2.2 F → Ga h h' x (x + 113) → CR h' zz x D → Q (dgA D F) h') : w_X6_digest zz x h Q := by
  unfold w_X6_digest
  refine ⟨by rw [okA_of C.1.1], m_refresh C (fun F g Gg Cg => ?_)⟩
  have iF := Cg.isFF
  have q' := q F
  refine ⟨by rw [okA_of Cg.1.1.1], c_mixNumbers Cg ⟨by rw [okA_of Cg.1.1.1], c_mixLetters Cg ⟨by rw [okA_of Cg.1.1.1], c_mixFrames Cg (fun g1 G1 C1 => ?_)⟩⟩⟩
  refine ⟨by rw [okA_of C1.1.1.1], c_best C1.1 (fun g2 F2 => ?_)⟩
  have C2 := C1.fr F2 (by omega)
  have G2 := (Gg.trans G1).trans (F2.ga (c := x) (d := x + 113) (by omega) (by omega))
  show w_X6_mix _ _ _ _ _
  unfold w_X6_mix
  refine ⟨by rw [okA_of C2.1.1.1], c_likeness C2.1 (fun F3 g3 G3 C3 => ?_)⟩
  have G3 := G2.trans G3
  refine m_bits (likA_bt C3.1.2.2.2.1.1 C3.1.2.2.2.1.2.1) ?_
  obtain ⟨C3, -⟩ := C3
  have bk := C3.1.2.2.2.2.2.2.2.2.2.1
  obtain ⟨b1, b2, b3⟩ := C3.2.2.2.2.1
  refine ⟨by rw [okA_of C3.1.1], x + 62, C3.1.2.2.2.2.2.2.1, by rw [okA_of bk.1], ?_⟩
  rw [b1]
  obtain ⟨I, hI⟩ : ∃ I : Nat → Int64 → Int → AH → Prop, ∀ m y i h', I m y i h' ↔ ∃ k : Nat, k ≤ D.2.2.2.2 ∧ m = D.2.2.2.2 - k ∧ i = (k : Int) ∧ y = fo D.2.2.2.1 k (mx (((31 : Int64) * mx (dg3 D F (dg2 D F (dg1 D F 2111))) 0) + (likA D.1.1 D.1.2.1 D.1.2.2).toInt64) (D.2.2.2.2 : Int)) ∧ h' = g3 := ⟨_, fun _ _ _ _ => Iff.rfl⟩
  refine ⟨I, ⟨D.2.2.2.2, (hI _ _ _ _).mpr ⟨0, by omega, rfl, rfl, rfl, rfl⟩⟩, ?_⟩
  intro m y i g hi9
  obtain ⟨k, hk, rfl, rfl, rfl, rfl⟩ := (hI _ _ _ _).mp hi9
  refine ⟨by rw [okA_of C3.1.1], x + 62, C3.1.2.2.2.2.2.2.1, by rw [okA_of bk.1], ?_⟩
  rw [b1]
  refine ⟨fun hc => ?_, fun hc => ?_⟩
  · obtain rfl : k = D.2.2.2.2 := by omega
    exact q' _ iF G3 C3
  · refine ⟨by rw [okA_of C3.1.1], x + 62, C3.1.2.2.2.2.2.2.1, by rw [okA_of bk.1], x + 63, bk.2.2.2.1, ?_⟩
    rw [okI_of (show hkd _ (x + 63) = _ from bk.2.1), show haI _ (x + 63) (k : Int) = _ from b3 k (by omega)]
    refine ⟨⟨by omega, by omega⟩, by unfold inR; omega, ?_⟩
    intro y2 e2
    exact ⟨D.2.2.2.2 - (k + 1), by omega, (hI _ _ _ _).mpr ⟨k + 1, by omega, rfl, by omega, rfl, rfl⟩⟩
