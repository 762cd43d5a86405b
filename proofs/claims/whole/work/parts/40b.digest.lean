/-! THE PURE LAYER, 24b -/
theorem c_mixLetters {zz : Nat → Nat} {x F : Nat} {a : Int64} {h : AH} {Q : Int64 → AH → Prop} {D : DT} (C : CF1 h zz x D F) (q : Q (dg2 D F a) h) : w_X6_mixLetters zz x a h Q := by
  obtain ⟨C, u0, u1, A⟩ := C
  have T := C.1
  have S := A.1
  have c0 := C.2.2.2.1.1.n
  have c1 := C.2.2.2.1.2.1.n
  unfold w_X6_mixLetters w_X6_mix
  obtain ⟨I, hI⟩ : ∃ I : Nat → Int64 → Int → AH → Prop, ∀ m y i h', I m y i h' ↔ (m = 2 ∧ i = 0 ∧ a = y ∨ m = 1 ∧ i = 1 ∧ y = dgL D a ∨ m = 0 ∧ i = 2 ∧ y = dgM D (dgL D a)) ∧ h' = h := ⟨_, fun _ _ _ _ => Iff.rfl⟩
  refine ⟨I, ⟨2, (hI _ _ _ _).mpr ⟨.inl ⟨rfl, rfl, rfl⟩, rfl⟩⟩, ?_⟩
  intro m y i h' hi9
  obtain ⟨hy, rfl⟩ := (hI _ _ _ _).mp hi9
  refine ⟨fun hc => ?_, fun hc => ?_⟩
  · obtain rfl : y = dgM D (dgL D a) := by
      rcases hy with hy | hy | hy
      · have := hy.2.1; omega
      · have := hy.2.1; omega
      · exact hy.2.2
    obtain ⟨J, hJ⟩ : ∃ J : Nat → Int64 → Int → AH → Prop, ∀ m y i g', J m y i g' ↔ ∃ k : Nat, k ≤ Nc D.1.1 * 3 ∧ m = Nc D.1.1 * 3 - k ∧ i = (k : Int) ∧ y = fo (fun k => wayA D.1.1 D.1.2.1 D.1.2.2 F (k / 3) ((k : Int) % 3)) k (dgM D (dgL D a)) ∧ g' = h' := ⟨_, fun _ _ _ _ => Iff.rfl⟩
    refine ⟨J, ⟨Nc D.1.1 * 3, (hJ _ _ _ _).mpr ⟨0, by omega, rfl, rfl, rfl, rfl⟩⟩, ?_⟩
    intro m y i h' hi9
    obtain ⟨k, hk, rfl, rfl, rfl, rfl⟩ := (hJ _ _ _ _).mp hi9
    refine ⟨by rw [okA_of T.1], x + 1, T.2.1, by rw [okA_of S.1.1], m_text S.1 (.inl rfl) ?_⟩
    rw [if_pos rfl]
    refine ⟨by rw [okA_of S.2.1.1.1], ?_⟩
    rw [S.2.1.2.2.1]
    refine ⟨by unfold inR; omega, fun hc => ?_, fun hc => ?_⟩
    · obtain rfl : k = Nc D.1.1 * 3 := by omega
      exact q
    · refine ⟨by rw [okA_of T.1], x + 9, T.2.2.1, ⟨by omega, by omega⟩, ⟨by omega, by omega⟩, by rw [okA_of A.2.2.2.1.1], ?_⟩
      rw [show (k : Int) / 3 = ((k / 3 : Nat) : Int) by omega]
      refine m_wayP A (by omega) (by omega) ⟨by unfold inR; omega, ?_⟩
      intro y2 e2
      exact ⟨Nc D.1.1 * 3 - (k + 1), by omega, (hJ _ _ _ _).mpr ⟨k + 1, by omega, rfl, by omega, rfl, rfl⟩⟩
  · refine ⟨by rw [okA_of T.1], x + 1, T.2.1, by rw [okA_of S.1.1], m_text S.1 (by omega) ?_⟩
    rcases hy with ⟨rfl, rfl, rfl⟩ | ⟨rfl, rfl, rfl⟩ | hy
    · rw [if_pos rfl]
      refine ⟨by rw [okA_of S.2.1.1.1], ?_⟩
      rw [S.2.1.2.2.1]
      intro l el
      subst el
      obtain ⟨J, hJ⟩ : ∃ J : Nat → Int64 → Int → AH → Prop, ∀ m y i g', J m y i g' ↔ ∃ k : Nat, k ≤ Nc D.1.1 * 6 ∧ m = Nc D.1.1 * 6 - k ∧ i = (k : Int) ∧ y = fo (fun k => let0 D.1.1 D.1.2.1 D.1.2.2 (k / 6) ((k : Int) % 6)) k a ∧ g' = h' := ⟨_, fun _ _ _ _ => Iff.rfl⟩
      refine ⟨J, ⟨Nc D.1.1 * 6, (hJ _ _ _ _).mpr ⟨0, by omega, rfl, rfl, rfl, rfl⟩⟩, ?_⟩
      intro m y i h' hi9
      obtain ⟨k, hk, rfl, rfl, rfl, rfl⟩ := (hJ _ _ _ _).mp hi9
      refine ⟨by unfold inR; omega, fun hc => ⟨by unfold inR; omega, ?_⟩, fun hc => ?_⟩
      · obtain rfl : k = Nc D.1.1 * 6 := by omega
        intro y2 e2
        exact ⟨1, by omega, (hI _ _ _ _).mpr ⟨.inr (.inl ⟨rfl, by omega, rfl⟩), rfl⟩⟩
      · refine ⟨by rw [okA_of T.1], x + 9, T.2.2.1, ⟨by omega, by omega⟩, ⟨by omega, by omega⟩, by rw [okA_of A.2.2.2.1.1], ?_⟩
        rw [show (k : Int) / 6 = ((k / 6 : Nat) : Int) by omega]
        refine m_letter0 A (by omega) (by omega) ⟨by unfold inR; omega, ?_⟩
        intro y2 e2
        exact ⟨Nc D.1.1 * 6 - (k + 1), by omega, (hJ _ _ _ _).mpr ⟨k + 1, by omega, rfl, by omega, rfl, rfl⟩⟩
    · rw [if_neg (by omega)]
      refine ⟨by rw [okA_of S.2.2.1.1.1], ?_⟩
      rw [S.2.2.1.2.2.1]
      intro l el
      subst el
      obtain ⟨J, hJ⟩ : ∃ J : Nat → Int64 → Int → AH → Prop, ∀ m y i g', J m y i g' ↔ ∃ k : Nat, k ≤ Nc D.1.2.1 * 6 ∧ m = Nc D.1.2.1 * 6 - k ∧ i = (k : Int) ∧ y = fo (fun k => let1 D.1.1 D.1.2.1 D.1.2.2 (k / 6) ((k : Int) % 6)) k (dgL D a) ∧ g' = h' := ⟨_, fun _ _ _ _ => Iff.rfl⟩
      refine ⟨J, ⟨Nc D.1.2.1 * 6, (hJ _ _ _ _).mpr ⟨0, by omega, rfl, rfl, rfl, rfl⟩⟩, ?_⟩
      intro m y i h' hi9
      obtain ⟨k, hk, rfl, rfl, rfl, rfl⟩ := (hJ _ _ _ _).mp hi9
      refine ⟨by unfold inR; omega, fun hc => ⟨by unfold inR; omega, ?_⟩, fun hc => ?_⟩
      · obtain rfl : k = Nc D.1.2.1 * 6 := by omega
        intro y2 e2
        exact ⟨0, by omega, (hI _ _ _ _).mpr ⟨.inr (.inr ⟨rfl, by omega, rfl⟩), rfl⟩⟩
      · refine ⟨by rw [okA_of T.1], x + 9, T.2.2.1, ⟨by omega, by omega⟩, ⟨by omega, by omega⟩, by rw [okA_of A.2.2.2.1.1], ?_⟩
        rw [show (k : Int) / 6 = ((k / 6 : Nat) : Int) by omega]
        refine m_letter1 A (by omega) (by omega) ⟨by unfold inR; omega, ?_⟩
        intro y2 e2
        exact ⟨Nc D.1.2.1 * 6 - (k + 1), by omega, (hJ _ _ _ _).mpr ⟨k + 1, by omega, rfl, by omega, rfl, rfl⟩⟩
    · have := hy.2.1; omega
