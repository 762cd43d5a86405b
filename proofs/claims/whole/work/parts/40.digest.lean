/-! THE PURE LAYER, 24: the digest -/
theorem GC.n {c : Nat → Int} (G : GC c) : Nc c ≤ 40 := G.2
def mx (h : Int64) (v : Int) : Int64 := ((31 : Int64) * h) + Int64.ofInt v
def fo (g : Nat → Int) : Nat → Int64 → Int64
  | 0, h => h
  | n + 1, h => mx (fo g n h) (g n)
theorem fo_s {g : Nat → Int} {n : Nat} {h : Int64} : fo g (n + 1) h = ((31 : Int64) * fo g n h) + Int64.ofInt (g n) := rfl
def dg1 (D : DT) (F : Nat) (a : Int64) : Int64 := fo D.1.2.2 8 (mx (fo (fun k => numA D.1.1 D.1.2.1 D.1.2.2 F k) 12 a) (D.2.2.1 : Int))
def dgL (D : DT) (a : Int64) : Int64 := fo (fun k => let0 D.1.1 D.1.2.1 D.1.2.2 (k / 6) ((k : Int) % 6)) (Nc D.1.1 * 6) a
def dgM (D : DT) (a : Int64) : Int64 := fo (fun k => let1 D.1.1 D.1.2.1 D.1.2.2 (k / 6) ((k : Int) % 6)) (Nc D.1.2.1 * 6) a
def dg2 (D : DT) (F : Nat) (a : Int64) : Int64 := fo (fun k => wayA D.1.1 D.1.2.1 D.1.2.2 F (k / 3) ((k : Int) % 3)) (Nc D.1.1 * 3) (dgM D (dgL D a))
def dg3 (D : DT) (F : Nat) (a : Int64) : Int64 := fo (fun k => shA D.1.1 D.1.2.1 D.1.2.2 F ((nFr D.1.1 D.1.2.1 D.1.2.2 F - 1) / 2) k) 80 (fo (fun k => fraA D.1.1 D.1.2.1 D.1.2.2 F ((k : Int) / 5) ((k : Int) % 5)) ((nFr D.1.1 D.1.2.1 D.1.2.2 F).toNat * 5) a)
def dg4 (D : DT) (a : Int64) : Int64 := fo D.2.2.2.1 D.2.2.2.2 (mx (((31 : Int64) * mx a 0) + (likA D.1.1 D.1.2.1 D.1.2.2).toInt64) (D.2.2.2.2 : Int))
def dgA (D : DT) (F : Nat) : Int64 := dg4 D (dg3 D F (dg2 D F (dg1 D F 2111)))
theorem c_mixNumbers {zz : Nat → Nat} {x F : Nat} {a : Int64} {h : AH} {Q : Int64 → AH → Prop} {D : DT} (C : CF1 h zz x D F) (q : Q (dg1 D F a) h) : w_X6_mixNumbers zz x a h Q := by
  obtain ⟨C, u0, u1, A⟩ := C
  have T := C.1
  have n1 := C.2.2.2.2.2.1
  unfold w_X6_mixNumbers w_X6_mix
  obtain ⟨I, hI⟩ : ∃ I : Nat → Int64 → Int → AH → Prop, ∀ m y i h', I m y i h' ↔ ∃ k : Nat, k ≤ 12 ∧ m = 12 - k ∧ i = (k : Int) ∧ y = fo (fun k => numA D.1.1 D.1.2.1 D.1.2.2 F k) k a ∧ h' = h := ⟨_, fun _ _ _ _ => Iff.rfl⟩
  refine ⟨I, ⟨12, (hI _ _ _ _).mpr ⟨0, by omega, rfl, rfl, rfl, rfl⟩⟩, ?_⟩
  intro m y i h' hi9
  obtain ⟨k, hk, rfl, rfl, rfl, rfl⟩ := (hI _ _ _ _).mp hi9
  refine ⟨fun hc => ?_, fun hc => ?_⟩
  · obtain rfl : k = 12 := by omega
    refine ⟨by rw [okA_of T.1], ?_⟩
    rw [n1]
    obtain ⟨J, hJ⟩ : ∃ J : Nat → Int64 → Int → AH → Prop, ∀ m y i g', J m y i g' ↔ ∃ k : Nat, k ≤ 8 ∧ m = 8 - k ∧ i = (k : Int) ∧ y = fo D.1.2.2 k (mx (fo (fun k => numA D.1.1 D.1.2.1 D.1.2.2 F k) 12 a) (D.2.2.1 : Int)) ∧ g' = h' := ⟨_, fun _ _ _ _ => Iff.rfl⟩
    refine ⟨J, ⟨8, (hJ _ _ _ _).mpr ⟨0, by omega, rfl, rfl, rfl, rfl⟩⟩, ?_⟩
    intro m y i h' hi9
    obtain ⟨k, hk, rfl, rfl, rfl, rfl⟩ := (hJ _ _ _ _).mp hi9
    refine ⟨fun hc => ?_, fun hc => ?_⟩
    · obtain rfl : k = 8 := by omega
      exact q
    · refine ⟨by rw [okA_of T.1], x + 1, T.2.1, by rw [okA_of A.1.1.1], x + 2, A.1.1.2.2.1, ?_⟩
      rw [okI_of (show hkd _ (x + 2) = _ from A.1.1.2.1), show haI _ (x + 2) (k : Int) = _ from A.1.2.2.2 k (by omega)]
      refine ⟨⟨by omega, by omega⟩, by unfold inR; omega, ?_⟩
      intro y2 e2
      exact ⟨8 - (k + 1), by omega, (hJ _ _ _ _).mpr ⟨k + 1, by omega, rfl, by omega, rfl, rfl⟩⟩
  · refine ⟨by rw [okA_of T.1], x + 9, T.2.2.1, by rw [okA_of A.2.2.2.1.1], m_number A (by omega) ?_⟩
    refine ⟨by unfold inR; omega, ?_⟩
    intro y2 e2
    exact ⟨12 - (k + 1), by omega, (hI _ _ _ _).mpr ⟨k + 1, by omega, rfl, by omega, rfl, rfl⟩⟩
