/-! THE PURE LAYER, 18: the class's calls, two -/
theorem dsv_1 {D : DT} : (dsv D).1 = D.1 := by unfold dsv; split <;> rfl
theorem dsv_b {D : DT} : (dsv D).2.2.2 = D.2.2.2 := by unfold dsv; split <;> rfl
/-- other texts or settings in the place of the state's -/
theorem CR.put {h h' : AH} {zz : Nat → Nat} {x : Nat} {D : DT} {d : D3} (C : CR h zz x D) (F : Fr h h' (x + 1) (x + 9)) (hs : hfI h x 7 = 1) (S : ∃ t0 t1, St h' (x + 1) t0 t1 d.1 d.2.1 d.2.2) (G : GD d) : CR h' zz x (d, D.2) := by
  obtain ⟨T, Z, -, -, B, n1, n2, ⟨pm, V⟩, W⟩ := C
  have lo := T.2.2.2.2.2.2.2.2.1
  exact ⟨T.fr F, Z.fr F (by omega), S, G, B.fr F (by omega), by rw [F.fi (by omega)]; exact n1, n2, ⟨pm, V.fr n2 F (by omega)⟩, .inl (by rw [F.fi (by omega)]; exact hs)⟩
def dBegin (D : DT) : DT := ((fun _ => 32, fun _ => 32, st0), (dsv D).2)
theorem GD_0 : GD (fun _ => 32, fun _ => 32, st0) := by
  have e : cn (fun _ => (32 : Int)) 80 = 0 := cn_blank (fun _ _ => rfl)
  refine ⟨⟨fun _ _ => .inl rfl, by show cn (fun _ => (32 : Int)) 80 ≤ 40; omega⟩, ⟨fun _ _ => .inl rfl, by show cn (fun _ => (32 : Int)) 80 ≤ 40; omega⟩, ?_⟩
  unfold GS st0
  refine ⟨by decide, by decide, by decide, by decide, by decide, by decide, by decide, by decide⟩
def dSet (D : DT) (s v : Int) : DT := ((D.1.1, D.1.2.1, un D.1.2.2 s.toNat v), (dsv D).2)
theorem GS_un {st : Nat → Int} {k : Nat} {v : Int} (hg : GS st) (hk : k < 8) (hv : lowV k ≤ v ∧ v ≤ topV k) : GS (un st k v) := by
  obtain ⟨a0, a1, a2, a3, a4, a5, a6, a7⟩ := hg
  have : k = 0 ∨ k = 1 ∨ k = 2 ∨ k = 3 ∨ k = 4 ∨ k = 5 ∨ k = 6 ∨ k = 7 := by omega
  unfold GS
  rcases this with rfl | rfl | rfl | rfl | rfl | rfl | rfl | rfl <;>
    (simp only [lowV, topV] at hv; simp at hv; simp only [un]; simp; omega)
theorem c_set {zz : Nat → Nat} {x : Nat} {s v : Int} {h : AH} {Q : Int → AH → Prop} {X : String → AH → Prop} {D : DT} (C : CR h zz x D) (q : (0 ≤ s ∧ s < 8) → (lowV s ≤ v ∧ v ≤ topV s) → ∀ h' : AH, Ga h h' x (x + 113) → CR h' zz x (dSet D s v) → Q (D.1.2.2 s.toNat) h') (q1 : ¬ (0 ≤ s ∧ s < 8) → ∀ k : Nat, X "java/lang/IndexOutOfBoundsException" (nGb h k)) (q2 : (0 ≤ s ∧ s < 8) → ¬ (lowV s ≤ v ∧ v ≤ topV s) → ∀ k : Nat, X "java/lang/IllegalArgumentException" (nGb h k)) : w_X6_set zz x s v h Q X := by
  unfold w_X6_set
  refine m_isSetting ?_
  by_cases hs : 0 ≤ s ∧ s < 8
  · rw [if_pos hs]
    refine ⟨fun _ => m_isValue C.2.1 hs ?_, fun h => absurd h (by omega)⟩
    by_cases hv : lowV s ≤ v ∧ v ≤ topV s
    · rw [if_pos hv]
      refine ⟨fun _ => ⟨by rw [okA_of C.1.1], m_save C (fun g Gg Cg y7 _ => ?_)⟩, fun h => absurd h (by omega)⟩
      have Cg0 := Cg
      obtain ⟨T, Z, ⟨t0, t1, S⟩, G, B, n1, n2, ⟨pm, V⟩, W⟩ := Cg
      rw [dsv_1] at S G
      have S0 := S
      have f0 := T.2.1
      have tk := T.1
      have lo := T.2.2.2.2.2.2.2.2.1
      obtain ⟨k, hk⟩ : ∃ k : Nat, s = (k : Int) := ⟨s.toNat, by omega⟩
      subst hk
      obtain ⟨⟨a0, a1, a2, a3, a4, a5, a6⟩, ⟨⟨b0, b1, b2, b3, b4, b5⟩, b6, b7, b8⟩, ⟨⟨d0, d1, d2, d3, d4, d5⟩, d6, d7, d8⟩, a9⟩ := S
      have e0 := a9 k (by omega)
      have x1 : (0 : Int) ≤ (k : Int) := by omega
      have x2 : (k : Int) < ((8 : Nat) : Int) := by omega
      have x3 : hlo g ≤ x + 2 := by omega
      simp only [okA, okI, okW, pair_ex, some_ex, forall_eq, a0, a1, a2, Nat.add_assoc, Nat.reduceAdd, f0, tk, true_and]
      simp only [show x + (1 + 1) = x + 2 from rfl] at *
      refine ⟨⟨x1, x2⟩, ⟨x1, x2, by omega⟩, ?_⟩
      have F2 : Fr g (saI g (x + 2) (u1 (haI g (x + 2)) (k : Int) v)) (x + 1) (x + 9) := Fr.sa (by omega) (by omega)
      have e1 : haI g (x + 2) (k : Int) = D.1.2.2 k := e0
      rw [e1]
      refine q hs hv _ (Gg.trans (F2.ga (by omega) (by omega))) ?_
      have hk8 : k < 8 := by omega
      refine Cg0.put (d := (D.1.1, D.1.2.1, un D.1.2.2 k v)) F2 y7 ⟨t0, t1, S0.1.fr F2, S0.2.1.fr (Fr.sa (a := x + 2) (b := x + 3) (by omega) (by omega)) (by omega), S0.2.2.1.fr (Fr.sa (a := x + 2) (b := x + 3) (by omega) (by omega)) (by omega), fun j hj => ?_⟩ ⟨G.1, G.2.1, GS_un G.2.2 hk8 hv⟩
      show haI (saI g (x + 2) _) (x + 2) j = un D.1.2.2 k v j
      rw [haI_saI, if_pos rfl, u1_apply, show haI g (x + 2) (j : Int) = D.1.2.2 j from S0.2.2.2 j hj]
      exact u1_un
    · rw [if_neg hv]
      exact ⟨fun h => absurd rfl h, fun _ => ⟨Nat.le_refl _, q2 hs hv⟩⟩
  · rw [if_neg hs]
    exact ⟨fun h => absurd rfl h, fun _ => ⟨Nat.le_refl _, q1 hs⟩⟩
theorem c_setting {zz : Nat → Nat} {x : Nat} {s : Int} {h : AH} {Q : Int → AH → Prop} {X : String → AH → Prop} {D : DT} (C : CR h zz x D) (q : (0 ≤ s ∧ s < 8) → Q (D.1.2.2 s.toNat) h) (q1 : ¬ (0 ≤ s ∧ s < 8) → ∀ k : Nat, X "java/lang/IndexOutOfBoundsException" (nGb h k)) : w_X6_setting zz x s h Q X := by
  unfold w_X6_setting
  refine m_isSetting ?_
  by_cases hs : 0 ≤ s ∧ s < 8
  · rw [if_pos hs]
    refine ⟨fun _ => ?_, fun h => absurd h (by omega)⟩
    obtain ⟨T, Z, ⟨t0, t1, S⟩, -⟩ := C
    obtain ⟨k, hk⟩ : ∃ k : Nat, s = (k : Int) := ⟨s.toNat, by omega⟩
    subst hk
    have q' := q hs
    refine ⟨by rw [okA_of T.1], x + 1, T.2.1, by rw [okA_of S.1.1], x + 1 + 1, S.1.2.2.1, ?_⟩
    rw [okI_of S.1.2.1, S.2.2.2 k (by omega)]
    exact ⟨⟨by omega, by omega⟩, q'⟩
  · rw [if_neg hs]
    exact ⟨fun h => absurd rfl h, fun _ => ⟨Nat.le_refl _, q1 hs⟩⟩
