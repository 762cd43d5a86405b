/-! THE PURE LAYER, 21: the class's calls, five: what is told -/
def letP (D : DT) (t : Int) (i : Nat) (v : Int) : Int := if t = 0 then let0 D.1.1 D.1.2.1 D.1.2.2 i v else let1 D.1.1 D.1.2.1 D.1.2.2 i v
theorem CF1.isFF {h : AH} {zz : Nat → Nat} {x F : Nat} {D : DT} (C : CF1 h zz x D F) : isFF D.1.1 D.1.2.1 D.1.2.2 F := by
  obtain ⟨C, t0, t1, A⟩ := C
  exact A.2.2.2.2.1.2.2.2.2.2.2
theorem c_letter {zz : Nat → Nat} {x : Nat} {t i v : Int} {h : AH} {Q : Int → AH → Prop} {X : String → AH → Prop} {D : DT} (C : CR h zz x D)
    (q : (t = 0 ∨ t = 1) → (0 ≤ i ∧ i < (Nc (cOf D t) : Int)) → (0 ≤ v ∧ v < 6) → ∀ h' : AH, Ga h h' x (x + 113) → CR h' zz x D → Q (letP D t i.toNat v) h')
    (q1 : ¬ ((t = 0 ∨ t = 1) ∧ 0 ≤ i ∧ i < (Nc (cOf D t) : Int)) → ∀ k : Nat, X "java/lang/IndexOutOfBoundsException" (nGb h k))
    (q2 : ((t = 0 ∨ t = 1) ∧ 0 ≤ i ∧ i < (Nc (cOf D t) : Int)) → ¬ (0 ≤ v ∧ v < 6) → ∀ k : Nat, X "java/lang/IllegalArgumentException" (nGb h k)) : w_X6_letter zz x t i v h Q X := by
  have C0 := C
  obtain ⟨T, Z, ⟨t0, t1, S⟩, G, B, n1, n2, ⟨pm, V⟩, W⟩ := C
  unfold w_X6_letter
  refine m_isText ?_
  rw [jn_def]
  by_cases ht : t = 0 ∨ t = 1
  · rw [if_pos ht]
    have U := S.tx (t := t)
    refine ⟨fun h => absurd h (by omega), fun _ => ⟨fun h1 => ⟨Nat.le_refl _, q1 (fun h => by have := h.2.1; omega)⟩, fun h1 => ⟨by rw [okA_of T.1], x + 1, T.2.1, by rw [okA_of S.1.1], m_text S.1 ht ⟨by rw [okA_of U.1.1], ?_⟩⟩⟩⟩
    rw [U.2.2.1]
    refine ⟨fun h2 => ?_, fun h2 => ⟨Nat.le_refl _, q1 (fun h => h2 h.2.2)⟩⟩
    rw [jn_def]
    refine ⟨fun h3 => ⟨Nat.le_refl _, q2 ⟨ht, by omega, h2⟩ (by omega)⟩, fun h3 => ⟨fun h4 => ⟨by rw [okA_of T.1], m_refresh C0 (fun F g Gg Cg => ?_)⟩, fun h4 => ⟨Nat.le_refl _, q2 ⟨ht, by omega, h2⟩ (by omega)⟩⟩⟩
    obtain ⟨Cg, u0, u1, A⟩ := Cg
    have q' := q ht ⟨by omega, h2⟩ ⟨by omega, h4⟩ g Gg Cg
    obtain ⟨k, hk⟩ : ∃ k : Nat, i = (k : Int) := ⟨i.toNat, by omega⟩
    subst hk
    refine ⟨by rw [okA_of Cg.1.1], x + 9, Cg.1.2.2.1, by rw [okA_of A.2.2.2.1.1], ?_⟩
    rcases ht with rfl | rfl
    · exact m_letter0 A (show k < Nc D.1.1 from by have h2 : (k : Int) < (Nc D.1.1 : Int) := h2; omega) (by omega) q'
    · exact m_letter1 A (show k < Nc D.1.2.1 from by have h2 : (k : Int) < (Nc D.1.2.1 : Int) := h2; omega) (by omega) q'
  · rw [if_neg ht]
    exact ⟨fun _ => ⟨Nat.le_refl _, q1 (fun h => ht h.1)⟩, fun h => absurd rfl h⟩
theorem c_way {zz : Nat → Nat} {x : Nat} {i v : Int} {h : AH} {Q : Int → AH → Prop} {X : String → AH → Prop} {D : DT} (C : CR h zz x D)
    (q : (0 ≤ i ∧ i < (Nc D.1.1 : Int)) → (0 ≤ v ∧ v < 3) → ∀ (F : Nat) (h' : AH), isFF D.1.1 D.1.2.1 D.1.2.2 F → Ga h h' x (x + 113) → CR h' zz x D → Q (wayA D.1.1 D.1.2.1 D.1.2.2 F i.toNat v) h')
    (q1 : ¬ (0 ≤ i ∧ i < (Nc D.1.1 : Int)) → ∀ k : Nat, X "java/lang/IndexOutOfBoundsException" (nGb h k))
    (q2 : (0 ≤ i ∧ i < (Nc D.1.1 : Int)) → ¬ (0 ≤ v ∧ v < 3) → ∀ k : Nat, X "java/lang/IllegalArgumentException" (nGb h k)) : w_X6_way zz x i v h Q X := by
  unfold w_X6_way
  refine ⟨by rw [okA_of C.1.1], m_isPiece C ?_⟩
  by_cases hi : 0 ≤ i ∧ i < (Nc D.1.1 : Int)
  · rw [if_pos hi]
    refine ⟨fun _ => ?_, fun h => absurd h (by omega)⟩
    rw [jn_def]
    refine ⟨fun h3 => ⟨Nat.le_refl _, q2 hi (by omega)⟩, fun h3 => ⟨fun h4 => ⟨by rw [okA_of C.1.1], m_refresh C (fun F g Gg Cg => ?_)⟩, fun h4 => ⟨Nat.le_refl _, q2 hi (by omega)⟩⟩⟩
    have q' := q hi ⟨by omega, h4⟩ F g Cg.isFF Gg Cg.1
    obtain ⟨Cg, u0, u1, A⟩ := Cg
    obtain ⟨k, hk⟩ : ∃ k : Nat, i = (k : Int) := ⟨i.toNat, by omega⟩
    subst hk
    exact ⟨by rw [okA_of Cg.1.1], x + 9, Cg.1.2.2.1, by rw [okA_of A.2.2.2.1.1], m_wayP A (by omega) (by omega) q'⟩
  · rw [if_neg hi]
    exact ⟨fun h => absurd rfl h, fun _ => ⟨Nat.le_refl _, q1 hi⟩⟩
theorem c_at {zz : Nat → Nat} {x : Nat} {f r c : Int} {h : AH} {Q : Int → AH → Prop} {X : String → AH → Prop} {D : DT} (C : CR h zz x D)
    (q : ∀ (F : Nat) (h' : AH), isFF D.1.1 D.1.2.1 D.1.2.2 F → (0 ≤ f ∧ f < nFr D.1.1 D.1.2.1 D.1.2.2 F) → ((0 ≤ r ∧ r < 5) ∧ 0 ≤ c ∧ c < 16) → Ga h h' x (x + 113) → CR h' zz x D → Q (shA D.1.1 D.1.2.1 D.1.2.2 F f (16 * r + c).toNat) h')
    (q1 : ∀ (F : Nat) (h' : AH), isFF D.1.1 D.1.2.1 D.1.2.2 F → ¬ ((0 ≤ f ∧ f < nFr D.1.1 D.1.2.1 D.1.2.2 F) ∧ (0 ≤ r ∧ r < 5) ∧ 0 ≤ c ∧ c < 16) → Ga h h' x (x + 113) → CR h' zz x D → X "java/lang/IndexOutOfBoundsException" h') : w_X6_at zz x f r c h Q X := by
  unfold w_X6_at
  refine ⟨by rw [okA_of C.1.1], m_refresh C (fun F g Gg Cg => ?_)⟩
  have iF := Cg.isFF
  refine ⟨by rw [okA_of Cg.1.1.1], m_isFrame Cg ?_⟩
  rw [jn_def]
  by_cases hf : 0 ≤ f ∧ f < nFr D.1.1 D.1.2.1 D.1.2.2 F
  · rw [if_pos hf]
    refine ⟨fun h => absurd h (by omega), fun _ => m_isCell ?_⟩
    by_cases hc : (0 ≤ r ∧ r < 5) ∧ 0 ≤ c ∧ c < 16
    · rw [if_pos hc]
      refine ⟨fun _ => ?_, fun h => absurd h (by omega)⟩
      have Cg0 := Cg
      obtain ⟨Cg, u0, u1, A⟩ := Cg
      have nb := nFr_bd (c0 := D.1.1) (c1 := D.1.2.1) (F := F) Cg.2.2.2.1.2.2 Cg.2.2.2.1.1.2 Cg.2.2.2.1.2.1.2 iF.2
      obtain ⟨p, hp⟩ : ∃ p : Nat, p = (16 * r + c).toNat := ⟨_, rfl⟩
      have hp2 : 16 * r + c = (p : Int) := by omega
      rw [← hp] at q
      refine ⟨by rw [okA_of Cg.1.1], x + 9, Cg.1.2.2.1, by unfold inR; omega, by unfold inR; omega, by rw [okA_of A.2.2.2.1.1], ?_⟩
      rw [hp2]
      exact m_codeShown A (by omega) (by omega) (fun g2 F2 => q F g2 iF hf hc (Gg.trans (F2.ga (by omega) (by omega))) (Cg.fr F2 (by omega)))
    · rw [if_neg hc]
      exact ⟨fun h => absurd rfl h, fun _ => ⟨Gg.2.2.1, fun k => q1 F _ iF (fun h => hc h.2) (Gg.trans Ga.gb) (show CR g zz x D from Cg.1)⟩⟩
  · rw [if_neg hf]
    exact ⟨fun _ => ⟨Gg.2.2.1, fun k => q1 F _ iF (fun h => hf h.1) (Gg.trans Ga.gb) (show CR g zz x D from Cg.1)⟩, fun h => absurd rfl h⟩
theorem c_place {zz : Nat → Nat} {x : Nat} {f i : Int} {h : AH} {Q : Int → AH → Prop} {X : String → AH → Prop} {D : DT} (C : CR h zz x D)
    (q : ∀ (F : Nat) (h' : AH), isFF D.1.1 D.1.2.1 D.1.2.2 F → (0 ≤ f ∧ f < nFr D.1.1 D.1.2.1 D.1.2.2 F) → (0 ≤ i ∧ i < (Nc D.1.1 : Int)) → Ga h h' x (x + 113) → CR h' zz x D → Q (plA D.1.1 D.1.2.1 D.1.2.2 F i.toNat f) h')
    (q1 : ∀ (F : Nat) (h' : AH), isFF D.1.1 D.1.2.1 D.1.2.2 F → ¬ ((0 ≤ f ∧ f < nFr D.1.1 D.1.2.1 D.1.2.2 F) ∧ 0 ≤ i ∧ i < (Nc D.1.1 : Int)) → Ga h h' x (x + 113) → CR h' zz x D → X "java/lang/IndexOutOfBoundsException" h') : w_X6_place zz x f i h Q X := by
  unfold w_X6_place
  refine ⟨by rw [okA_of C.1.1], m_refresh C (fun F g Gg Cg => ?_)⟩
  have iF := Cg.isFF
  refine ⟨by rw [okA_of Cg.1.1.1], m_isFrame Cg ?_⟩
  rw [jn_def]
  by_cases hf : 0 ≤ f ∧ f < nFr D.1.1 D.1.2.1 D.1.2.2 F
  · rw [if_pos hf]
    refine ⟨fun h => absurd h (by omega), fun _ => ⟨by rw [okA_of Cg.1.1.1], m_isPiece Cg.1 ?_⟩⟩
    by_cases hc : 0 ≤ i ∧ i < (Nc D.1.1 : Int)
    · rw [if_pos hc]
      refine ⟨fun _ => ?_, fun h => absurd h (by omega)⟩
      obtain ⟨Cg, u0, u1, A⟩ := Cg
      have nb := nFr_bd (c0 := D.1.1) (c1 := D.1.2.1) (F := F) Cg.2.2.2.1.2.2 Cg.2.2.2.1.1.2 Cg.2.2.2.1.2.1.2 iF.2
      have q' := q F g iF hf hc Gg Cg
      obtain ⟨k, hk⟩ : ∃ k : Nat, i = (k : Int) := ⟨i.toNat, by omega⟩
      subst hk
      exact ⟨by rw [okA_of Cg.1.1], x + 9, Cg.1.2.2.1, by rw [okA_of A.2.2.2.1.1], m_cellOf A (by omega) (by omega) q'⟩
    · rw [if_neg hc]
      exact ⟨fun h => absurd rfl h, fun _ => ⟨Gg.2.2.1, fun k => q1 F _ iF (fun h => hc h.2) (Gg.trans Ga.gb) (show CR g zz x D from Cg.1)⟩⟩
  · rw [if_neg hf]
    exact ⟨fun _ => ⟨Gg.2.2.1, fun k => q1 F _ iF (fun h => hf h.1) (Gg.trans Ga.gb) (show CR g zz x D from Cg.1)⟩, fun h => absurd rfl h⟩
theorem c_frame {zz : Nat → Nat} {x : Nat} {f v : Int} {h : AH} {Q : Int → AH → Prop} {X : String → AH → Prop} {D : DT} (C : CR h zz x D)
    (q : ∀ (F : Nat) (h' : AH), isFF D.1.1 D.1.2.1 D.1.2.2 F → (0 ≤ f ∧ f < nFr D.1.1 D.1.2.1 D.1.2.2 F) → (0 ≤ v ∧ v < 5) → Ga h h' x (x + 113) → CR h' zz x D → Q (fraA D.1.1 D.1.2.1 D.1.2.2 F f v) h')
    (q1 : ∀ (F : Nat) (h' : AH), isFF D.1.1 D.1.2.1 D.1.2.2 F → ¬ (0 ≤ f ∧ f < nFr D.1.1 D.1.2.1 D.1.2.2 F) → Ga h h' x (x + 113) → CR h' zz x D → X "java/lang/IndexOutOfBoundsException" h')
    (q2 : ∀ (F : Nat) (h' : AH), isFF D.1.1 D.1.2.1 D.1.2.2 F → (0 ≤ f ∧ f < nFr D.1.1 D.1.2.1 D.1.2.2 F) → ¬ (0 ≤ v ∧ v < 5) → Ga h h' x (x + 113) → CR h' zz x D → X "java/lang/IllegalArgumentException" h') : w_X6_frame zz x f v h Q X := by
  unfold w_X6_frame
  refine ⟨by rw [okA_of C.1.1], m_refresh C (fun F g Gg Cg => ?_)⟩
  have iF := Cg.isFF
  refine ⟨by rw [okA_of Cg.1.1.1], m_isFrame Cg ?_⟩
  by_cases hf : 0 ≤ f ∧ f < nFr D.1.1 D.1.2.1 D.1.2.2 F
  · rw [if_pos hf]
    refine ⟨fun _ => ?_, fun h => absurd h (by omega)⟩
    rw [jn_def]
    refine ⟨fun h3 => ⟨Gg.2.2.1, fun k => q2 F _ iF hf (by omega) (Gg.trans Ga.gb) (show CR g zz x D from Cg.1)⟩, fun h3 => ⟨fun h4 => ?_, fun h4 => ⟨Gg.2.2.1, fun k => q2 F _ iF hf (by omega) (Gg.trans Ga.gb) (show CR g zz x D from Cg.1)⟩⟩⟩
    obtain ⟨Cg, u0, u1, A⟩ := Cg
    have nb := nFr_bd (c0 := D.1.1) (c1 := D.1.2.1) (F := F) Cg.2.2.2.1.2.2 Cg.2.2.2.1.1.2 Cg.2.2.2.1.2.1.2 iF.2
    exact ⟨by rw [okA_of Cg.1.1], x + 9, Cg.1.2.2.1, by rw [okA_of A.2.2.2.1.1], m_frameP A (by omega) (by omega) (fun g2 F2 => q F g2 iF hf (by omega) (Gg.trans (F2.ga (by omega) (by omega))) (Cg.fr F2 (by omega)))⟩
  · rw [if_neg hf]
    exact ⟨fun h => absurd rfl h, fun _ => ⟨Gg.2.2.1, fun k => q1 F _ iF hf (Gg.trans Ga.gb) (show CR g zz x D from Cg.1)⟩⟩
theorem c_count {zz : Nat → Nat} {x : Nat} {v : Int} {h : AH} {Q : Int → AH → Prop} {X : String → AH → Prop} {D : DT} (C : CR h zz x D)
    (q : (0 ≤ v ∧ v ≤ 12) → ∀ (F : Nat) (h' : AH), isFF D.1.1 D.1.2.1 D.1.2.2 F → Ga h h' x (x + 113) → CR h' zz x D → Q (if v = 12 then (D.2.2.1 : Int) else numA D.1.1 D.1.2.1 D.1.2.2 F v) h')
    (q1 : ¬ (0 ≤ v ∧ v ≤ 12) → ∀ k : Nat, X "java/lang/IllegalArgumentException" (nGb h k)) : w_X6_count zz x v h Q X := by
  unfold w_X6_count
  rw [jn_def]
  refine ⟨fun h1 => ⟨Nat.le_refl _, q1 (by omega)⟩, fun h1 => ⟨fun h2 => ⟨by rw [okA_of C.1.1], m_refresh C (fun F g Gg Cg => ?_)⟩, fun h2 => ⟨Nat.le_refl _, q1 (by omega)⟩⟩⟩
  have q' := q (by omega) F g Cg.isFF Gg Cg.1
  obtain ⟨Cg, u0, u1, A⟩ := Cg
  rw [jn_def]
  refine ⟨fun h3 => ?_, fun h3 => ?_⟩
  · rw [if_neg h3] at q'
    exact ⟨by rw [okA_of Cg.1.1], x + 9, Cg.1.2.2.1, by rw [okA_of A.2.2.2.1.1], m_number A (by omega) q'⟩
  · rw [if_pos h3] at q'
    refine ⟨by rw [okA_of Cg.1.1], ?_⟩
    rw [Cg.2.2.2.2.2.1]; exact q'