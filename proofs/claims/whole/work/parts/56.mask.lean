/-! THE PURE LAYER, 40: the model's questions -/
theorem MLy.isFF {h : AH} {y F : Nat} {c0 c1 st : Nat → Int} (M : MLy h y c0 c1 st F) : isFF c0 c1 st F := M.2.2.2
theorem d_letter {zz : Nat → Nat} {y : Nat} {t i v : Int} {h : AH} {Q : Int → AH → Prop} {D : DT} (R : MRl h y D)
    (q : (t = 0 ∨ t = 1) → (0 ≤ i ∧ i < (Nc (cOf D t) : Int)) → (0 ≤ v ∧ v < 6) → ∀ h' : AH, Ga h h' y (y + 17) → MRl h' y D → hfI h' y 0 = 0 → Q (letP D t i.toNat v) h')
    (q1 : ¬ ((t = 0 ∨ t = 1) ∧ 0 ≤ i ∧ i < (Nc (cOf D t) : Int)) → ∀ h' : AH, Ga h h' y (y + 17) → MRl h' y D → hfI h' y 0 = 1 → Q 0 h')
    (q2 : ((t = 0 ∨ t = 1) ∧ 0 ≤ i ∧ i < (Nc (cOf D t) : Int)) → ¬ (0 ≤ v ∧ v < 6) → ∀ h' : AH, Ga h h' y (y + 17) → MRl h' y D → hfI h' y 0 = 2 → Q 0 h') : w_X7_letter zz y t i v h Q := by
  unfold w_X7_letter
  refine ⟨by rw [okA_of R.1.1], d_layR R (fun F g G Rg M e0 _ => ?_)⟩
  have K := Rg.1
  have h0 := M.bd.2.1
  have h1 := M.bd.2.2.1
  refine d_isText (jn_a1 (if (t = 0 ∨ t = 1) ∧ 0 ≤ i ∧ i < (Nc (cOf D t) : Int) then 1 else 0) g (fun f hf => ?_) (jn_a1 (if (t = 0 ∨ t = 1) ∧ 0 ≤ i ∧ i < (Nc (cOf D t) : Int) then (if 0 ≤ v ∧ v < 6 then 0 else 2) else 1) g (fun f hf => ?_) ⟨by rw [okP_of K.1]; exact ⟨rfl, K.2.1⟩, fun g2 eg2 => ?_⟩))
  · rw [jn_def]
    by_cases ht : t = 0 ∨ t = 1
    · rw [if_pos ht]
      have mt : haI g (y + 4) t = (Nc (cOf D t) : Int) := by
        rcases ht with rfl | rfl
        · exact M.1.2.2.1.1
        · exact M.1.2.2.1.2.1
      have n40 : Nc (cOf D t) ≤ 40 := (R.2.2.1.tx (D := D) (t := t)).n
      refine ⟨fun h => absurd h (by omega), fun _ => ⟨by rw [okA_of K.1], y + 4, K.2.2.2.2.2.2.1, d_isText ?_⟩⟩
      rw [if_pos ht, jn_def]
      refine ⟨fun h => absurd h (by omega), fun _ => ⟨by rw [okI_of K.2.2.1.2.2.2.1]; omega, ?_⟩⟩
      rw [mt]
      refine ⟨by unfold inR; omega, d_within ?_⟩
      by_cases hi : 0 ≤ i ∧ i < (Nc (cOf D t) : Int)
      · rw [if_pos (show 0 ≤ i ∧ i ≤ (Nc (cOf D t) : Int) - 1 by omega)]
        rw [if_pos ⟨ht, hi⟩] at hf
        exact ⟨fun h => absurd h (by omega), fun _ => hf⟩
      · rw [if_neg (show ¬ (0 ≤ i ∧ i ≤ (Nc (cOf D t) : Int) - 1) by omega)]
        rw [if_neg (fun h => hi h.2)] at hf
        exact ⟨fun _ => hf, fun h => absurd rfl h⟩
    · rw [if_neg ht]
      rw [if_neg (fun h => ht h.1)] at hf
      exact ⟨fun _ => hf, fun h => absurd rfl h⟩
  · by_cases hh : (t = 0 ∨ t = 1) ∧ 0 ≤ i ∧ i < (Nc (cOf D t) : Int)
    · rw [if_pos hh] at hf ⊢
      refine ⟨fun _ => d_within ?_, fun h => absurd h (by omega)⟩
      by_cases hv : 0 ≤ v ∧ v < 6
      · rw [if_pos (show 0 ≤ v ∧ v ≤ 5 by omega)]
        rw [if_pos hv] at hf
        exact ⟨fun h => absurd h (by omega), fun _ => hf⟩
      · rw [if_neg (show ¬ (0 ≤ v ∧ v ≤ 5) by omega)]
        rw [if_neg hv] at hf
        exact ⟨fun _ => hf, fun h => absurd rfl h⟩
    · rw [if_neg hh] at hf ⊢
      exact ⟨fun h => absurd rfl h, fun _ => hf⟩
  · have R2 : MRl g2 y D := by rw [eg2]; exact Rg.th
    have M2 : MLy g2 y D.1.1 D.1.2.1 D.1.2.2 F := by rw [eg2]; exact M.th
    have G2 : Ga h g2 y (y + 17) := G.trans (by rw [eg2]; exact Ga.th)
    have e2 : hfI g2 y 0 = (if (t = 0 ∨ t = 1) ∧ 0 ≤ i ∧ i < (Nc (cOf D t) : Int) then (if 0 ≤ v ∧ v < 6 then 0 else 2) else 1) := by rw [eg2]; exact th_at
    refine ⟨by rw [okA_of R2.1.1], ?_⟩
    rw [jn_def, e2]
    by_cases hh : (t = 0 ∨ t = 1) ∧ 0 ≤ i ∧ i < (Nc (cOf D t) : Int)
    · rw [if_pos hh] at e2 ⊢
      by_cases hv : 0 ≤ v ∧ v < 6
      · rw [if_pos hv] at e2 ⊢
        refine ⟨fun _ => ⟨by rw [okA_of R2.1.1], ?_⟩, fun h => absurd (Int.le_refl 0) h⟩
        have qq := q hh.1 hh.2 hv g2 G2 R2 e2
        obtain ⟨k, hk⟩ : ∃ k : Nat, i = (k : Int) := ⟨i.toNat, by omega⟩
        subst hk
        rcases hh.1 with rfl | rfl
        · exact d_letter0 M2 (show k < Nc D.1.1 from by have h2 : (k : Int) < (Nc D.1.1 : Int) := hh.2.2; omega) (by omega) qq
        · exact d_letter1 M2 (show k < Nc D.1.2.1 from by have h2 : (k : Int) < (Nc D.1.2.1 : Int) := hh.2.2; omega) (by omega) qq
      · rw [if_neg hv] at e2 ⊢
        exact ⟨fun h => absurd h (by omega), fun _ => q2 hh hv g2 G2 R2 e2⟩
    · rw [if_neg hh] at e2 ⊢
      exact ⟨fun h => absurd h (by omega), fun _ => q1 hh g2 G2 R2 e2⟩
theorem d_way {zz : Nat → Nat} {y : Nat} {i v : Int} {h : AH} {Q : Int → AH → Prop} {D : DT} (R : MRl h y D)
    (q : (0 ≤ i ∧ i < (Nc D.1.1 : Int)) → (0 ≤ v ∧ v < 3) → ∀ (F : Nat) (h' : AH), isFF D.1.1 D.1.2.1 D.1.2.2 F → Ga h h' y (y + 17) → MRl h' y D → hfI h' y 0 = 0 → Q (wayA D.1.1 D.1.2.1 D.1.2.2 F i.toNat v) h')
    (q1 : ¬ (0 ≤ i ∧ i < (Nc D.1.1 : Int)) → ∀ h' : AH, Ga h h' y (y + 17) → MRl h' y D → hfI h' y 0 = 1 → Q 0 h')
    (q2 : (0 ≤ i ∧ i < (Nc D.1.1 : Int)) → ¬ (0 ≤ v ∧ v < 3) → ∀ h' : AH, Ga h h' y (y + 17) → MRl h' y D → hfI h' y 0 = 2 → Q 0 h') : w_X7_way zz y i v h Q := by
  unfold w_X7_way
  refine ⟨by rw [okA_of R.1.1], d_layR R (fun F g G Rg M e0 _ => ?_)⟩
  have K := Rg.1
  have h0 := M.bd.2.1
  refine ⟨by rw [okA_of K.1], y + 4, K.2.2.2.2.2.2.1, by rw [okI_of K.2.2.1.2.2.2.1]; omega, ?_⟩
  rw [M.1.2.2.1.1]
  refine ⟨by unfold inR; omega, d_within ?_⟩
  refine jn_a1 (if 0 ≤ i ∧ i < (Nc D.1.1 : Int) then (if 0 ≤ v ∧ v < 3 then 0 else 2) else 1) g (fun f hf => ?_) ⟨by rw [okP_of K.1]; exact ⟨rfl, K.2.1⟩, fun g2 eg2 => ?_⟩
  · by_cases hh : 0 ≤ i ∧ i < (Nc D.1.1 : Int)
    · rw [if_pos (show 0 ≤ i ∧ i ≤ (Nc D.1.1 : Int) - 1 by omega)]
      rw [if_pos hh] at hf
      refine ⟨fun _ => d_within ?_, fun h => absurd h (by omega)⟩
      by_cases hv : 0 ≤ v ∧ v < 3
      · rw [if_pos (show 0 ≤ v ∧ v ≤ 2 by omega)]
        rw [if_pos hv] at hf
        exact ⟨fun h => absurd h (by omega), fun _ => hf⟩
      · rw [if_neg (show ¬ (0 ≤ v ∧ v ≤ 2) by omega)]
        rw [if_neg hv] at hf
        exact ⟨fun _ => hf, fun h => absurd rfl h⟩
    · rw [if_neg (show ¬ (0 ≤ i ∧ i ≤ (Nc D.1.1 : Int) - 1) by omega)]
      rw [if_neg hh] at hf
      exact ⟨fun h => absurd rfl h, fun _ => hf⟩
  · have R2 : MRl g2 y D := by rw [eg2]; exact Rg.th
    have M2 : MLy g2 y D.1.1 D.1.2.1 D.1.2.2 F := by rw [eg2]; exact M.th
    have G2 : Ga h g2 y (y + 17) := G.trans (by rw [eg2]; exact Ga.th)
    have e2 : hfI g2 y 0 = (if 0 ≤ i ∧ i < (Nc D.1.1 : Int) then (if 0 ≤ v ∧ v < 3 then 0 else 2) else 1) := by rw [eg2]; exact th_at
    refine ⟨by rw [okA_of R2.1.1], ?_⟩
    rw [jn_def, e2]
    by_cases hh : 0 ≤ i ∧ i < (Nc D.1.1 : Int)
    · rw [if_pos hh] at e2 ⊢
      by_cases hv : 0 ≤ v ∧ v < 3
      · rw [if_pos hv] at e2 ⊢
        refine ⟨fun _ => ⟨by rw [okA_of R2.1.1], ?_⟩, fun h => absurd (Int.le_refl 0) h⟩
        have qq := q hh hv F g2 M.isFF G2 R2 e2
        obtain ⟨k, hk⟩ : ∃ k : Nat, i = (k : Int) := ⟨i.toNat, by omega⟩
        subst hk
        exact d_wayNow M2 (by omega) qq
      · rw [if_neg hv] at e2 ⊢
        exact ⟨fun h => absurd h (by omega), fun _ => q2 hh hv g2 G2 R2 e2⟩
    · rw [if_neg hh] at e2 ⊢
      exact ⟨fun h => absurd h (by omega), fun _ => q1 hh g2 G2 R2 e2⟩
theorem d_at {zz : Nat → Nat} {y : Nat} {f r c : Int} {h : AH} {Q : Int → AH → Prop} {D : DT} (R : MRl h y D)
    (q : ∀ (F : Nat) (h' : AH), isFF D.1.1 D.1.2.1 D.1.2.2 F → (0 ≤ f ∧ f < nFr D.1.1 D.1.2.1 D.1.2.2 F) → ((0 ≤ r ∧ r < 5) ∧ 0 ≤ c ∧ c < 16) → Ga h h' y (y + 17) → MRl h' y D → hfI h' y 0 = 0 → Q (shA D.1.1 D.1.2.1 D.1.2.2 F f (16 * r + c).toNat) h')
    (q1 : ∀ (F : Nat) (h' : AH), isFF D.1.1 D.1.2.1 D.1.2.2 F → ¬ ((0 ≤ f ∧ f < nFr D.1.1 D.1.2.1 D.1.2.2 F) ∧ (0 ≤ r ∧ r < 5) ∧ 0 ≤ c ∧ c < 16) → Ga h h' y (y + 17) → MRl h' y D → hfI h' y 0 = 1 → Q 0 h') : w_X7_at zz y f r c h Q := by
  unfold w_X7_at
  refine ⟨by rw [okA_of R.1.1], d_layR R (fun F g G Rg M e0 _ => ?_)⟩
  have K := Rg.1
  have nb := M.bd.2.2.2.2
  refine ⟨by rw [okA_of K.1], d_isFrame M ?_⟩
  refine jn_a1 (if (0 ≤ f ∧ f < nFr D.1.1 D.1.2.1 D.1.2.2 F) ∧ (0 ≤ r ∧ r < 5) ∧ 0 ≤ c ∧ c < 16 then 0 else 1) g (fun f2 hf => ?_) ⟨by rw [okP_of K.1]; exact ⟨rfl, K.2.1⟩, fun g2 eg2 => ?_⟩
  · rw [jn_def]
    by_cases h1 : 0 ≤ f ∧ f < nFr D.1.1 D.1.2.1 D.1.2.2 F
    · rw [if_pos h1]
      refine ⟨fun h => absurd h (by omega), fun _ => d_isCell ?_⟩
      by_cases h2 : (0 ≤ r ∧ r < 5) ∧ 0 ≤ c ∧ c < 16
      · rw [if_pos h2]
        rw [if_pos ⟨h1, h2⟩] at hf
        exact ⟨fun h => absurd h (by omega), fun _ => hf⟩
      · rw [if_neg h2]
        rw [if_neg (fun h => h2 h.2)] at hf
        exact ⟨fun _ => hf, fun h => absurd rfl h⟩
    · rw [if_neg h1]
      rw [if_neg (fun h => h1 h.1)] at hf
      exact ⟨fun _ => hf, fun h => absurd rfl h⟩
  · have R2 : MRl g2 y D := by rw [eg2]; exact Rg.th
    have M2 : MLy g2 y D.1.1 D.1.2.1 D.1.2.2 F := by rw [eg2]; exact M.th
    have G2 : Ga h g2 y (y + 17) := G.trans (by rw [eg2]; exact Ga.th)
    have e2 : hfI g2 y 0 = (if (0 ≤ f ∧ f < nFr D.1.1 D.1.2.1 D.1.2.2 F) ∧ (0 ≤ r ∧ r < 5) ∧ 0 ≤ c ∧ c < 16 then 0 else 1) := by rw [eg2]; exact th_at
    refine ⟨by rw [okA_of R2.1.1], ?_⟩
    rw [jn_def, e2]
    by_cases hh : (0 ≤ f ∧ f < nFr D.1.1 D.1.2.1 D.1.2.2 F) ∧ (0 ≤ r ∧ r < 5) ∧ 0 ≤ c ∧ c < 16
    · rw [if_pos hh] at e2 ⊢
      have qq := q F g2 M.isFF hh.1 hh.2 G2 R2 e2
      obtain ⟨p, hp⟩ : ∃ p : Nat, p = (16 * r + c).toNat := ⟨_, rfl⟩
      have hp2 : 16 * r + c = (p : Int) := by omega
      rw [← hp] at qq
      refine ⟨fun _ => ⟨by unfold inR; omega, by unfold inR; omega, by rw [okA_of R2.1.1], ?_⟩, fun h => absurd (Int.le_refl 0) h⟩
      rw [hp2]
      exact d_shown M2 (by omega) qq
    · rw [if_neg hh] at e2 ⊢
      exact ⟨fun h => absurd h (by omega), fun _ => q1 F g2 M.isFF hh G2 R2 e2⟩
theorem d_place {zz : Nat → Nat} {y : Nat} {f i : Int} {h : AH} {Q : Int → AH → Prop} {D : DT} (R : MRl h y D)
    (q : ∀ (F : Nat) (h' : AH), isFF D.1.1 D.1.2.1 D.1.2.2 F → (0 ≤ f ∧ f < nFr D.1.1 D.1.2.1 D.1.2.2 F) → (0 ≤ i ∧ i < (Nc D.1.1 : Int)) → Ga h h' y (y + 17) → MRl h' y D → hfI h' y 0 = 0 → Q (plA D.1.1 D.1.2.1 D.1.2.2 F i.toNat f) h')
    (q1 : ∀ (F : Nat) (h' : AH), isFF D.1.1 D.1.2.1 D.1.2.2 F → ¬ ((0 ≤ f ∧ f < nFr D.1.1 D.1.2.1 D.1.2.2 F) ∧ 0 ≤ i ∧ i < (Nc D.1.1 : Int)) → Ga h h' y (y + 17) → MRl h' y D → hfI h' y 0 = 1 → Q 0 h') : w_X7_place zz y f i h Q := by
  unfold w_X7_place
  refine ⟨by rw [okA_of R.1.1], d_layR R (fun F g G Rg M e0 _ => ?_)⟩
  have K := Rg.1
  have nb := M.bd.2.2.2.2
  have h0 := M.bd.2.1
  refine ⟨by rw [okA_of K.1], d_isFrame M ?_⟩
  refine jn_a1 (if (0 ≤ f ∧ f < nFr D.1.1 D.1.2.1 D.1.2.2 F) ∧ 0 ≤ i ∧ i < (Nc D.1.1 : Int) then 0 else 1) g (fun f2 hf => ?_) ⟨by rw [okP_of K.1]; exact ⟨rfl, K.2.1⟩, fun g2 eg2 => ?_⟩
  · rw [jn_def]
    by_cases h1 : 0 ≤ f ∧ f < nFr D.1.1 D.1.2.1 D.1.2.2 F
    · rw [if_pos h1]
      refine ⟨fun h => absurd h (by omega), fun _ => ⟨by rw [okA_of K.1], y + 4, K.2.2.2.2.2.2.1, by rw [okI_of K.2.2.1.2.2.2.1]; omega, ?_⟩⟩
      rw [M.1.2.2.1.1]
      refine ⟨by unfold inR; omega, d_within ?_⟩
      by_cases h2 : 0 ≤ i ∧ i < (Nc D.1.1 : Int)
      · rw [if_pos (show 0 ≤ i ∧ i ≤ (Nc D.1.1 : Int) - 1 by omega)]
        rw [if_pos ⟨h1, h2⟩] at hf
        exact ⟨fun h => absurd h (by omega), fun _ => hf⟩
      · rw [if_neg (show ¬ (0 ≤ i ∧ i ≤ (Nc D.1.1 : Int) - 1) by omega)]
        rw [if_neg (fun h => h2 h.2)] at hf
        exact ⟨fun _ => hf, fun h => absurd rfl h⟩
    · rw [if_neg h1]
      rw [if_neg (fun h => h1 h.1)] at hf
      exact ⟨fun _ => hf, fun h => absurd rfl h⟩
  · have R2 : MRl g2 y D := by rw [eg2]; exact Rg.th
    have M2 : MLy g2 y D.1.1 D.1.2.1 D.1.2.2 F := by rw [eg2]; exact M.th
    have G2 : Ga h g2 y (y + 17) := G.trans (by rw [eg2]; exact Ga.th)
    have e2 : hfI g2 y 0 = (if (0 ≤ f ∧ f < nFr D.1.1 D.1.2.1 D.1.2.2 F) ∧ 0 ≤ i ∧ i < (Nc D.1.1 : Int) then 0 else 1) := by rw [eg2]; exact th_at
    refine ⟨by rw [okA_of R2.1.1], ?_⟩
    rw [jn_def, e2]
    by_cases hh : (0 ≤ f ∧ f < nFr D.1.1 D.1.2.1 D.1.2.2 F) ∧ 0 ≤ i ∧ i < (Nc D.1.1 : Int)
    · rw [if_pos hh] at e2 ⊢
      have qq := q F g2 M.isFF hh.1 hh.2 G2 R2 e2
      obtain ⟨k, hk⟩ : ∃ k : Nat, i = (k : Int) := ⟨i.toNat, by omega⟩
      subst hk
      exact ⟨fun _ => ⟨by rw [okA_of R2.1.1], d_placeIn M2 (by omega) (by omega) qq⟩, fun h => absurd (Int.le_refl 0) h⟩
    · rw [if_neg hh] at e2 ⊢
      exact ⟨fun h => absurd h (by omega), fun _ => q1 F g2 M.isFF hh G2 R2 e2⟩
theorem d_frame {zz : Nat → Nat} {y : Nat} {f v : Int} {h : AH} {Q : Int → AH → Prop} {D : DT} (R : MRl h y D)
    (q : ∀ (F : Nat) (h' : AH), isFF D.1.1 D.1.2.1 D.1.2.2 F → (0 ≤ f ∧ f < nFr D.1.1 D.1.2.1 D.1.2.2 F) → (0 ≤ v ∧ v < 5) → Ga h h' y (y + 17) → MRl h' y D → hfI h' y 0 = 0 → Q (fraA D.1.1 D.1.2.1 D.1.2.2 F f v) h')
    (q1 : ∀ (F : Nat) (h' : AH), isFF D.1.1 D.1.2.1 D.1.2.2 F → ¬ (0 ≤ f ∧ f < nFr D.1.1 D.1.2.1 D.1.2.2 F) → Ga h h' y (y + 17) → MRl h' y D → hfI h' y 0 = 1 → Q 0 h')
    (q2 : ∀ (F : Nat) (h' : AH), isFF D.1.1 D.1.2.1 D.1.2.2 F → (0 ≤ f ∧ f < nFr D.1.1 D.1.2.1 D.1.2.2 F) → ¬ (0 ≤ v ∧ v < 5) → Ga h h' y (y + 17) → MRl h' y D → hfI h' y 0 = 2 → Q 0 h') : w_X7_frame zz y f v h Q := by
  unfold w_X7_frame
  refine ⟨by rw [okA_of R.1.1], d_layR R (fun F g G Rg M e0 _ => ?_)⟩
  have K := Rg.1
  have nb := M.bd.2.2.2.2
  refine ⟨by rw [okA_of K.1], d_isFrame M ?_⟩
  refine jn_a1 (if 0 ≤ f ∧ f < nFr D.1.1 D.1.2.1 D.1.2.2 F then (if 0 ≤ v ∧ v < 5 then 0 else 2) else 1) g (fun f2 hf => ?_) ⟨by rw [okP_of K.1]; exact ⟨rfl, K.2.1⟩, fun g2 eg2 => ?_⟩
  · by_cases h1 : 0 ≤ f ∧ f < nFr D.1.1 D.1.2.1 D.1.2.2 F
    · rw [if_pos h1] at hf ⊢
      refine ⟨fun _ => d_within ?_, fun h => absurd h (by omega)⟩
      by_cases hv : 0 ≤ v ∧ v < 5
      · rw [if_pos (show 0 ≤ v ∧ v ≤ 4 by omega)]
        rw [if_pos hv] at hf
        exact ⟨fun h => absurd h (by omega), fun _ => hf⟩
      · rw [if_neg (show ¬ (0 ≤ v ∧ v ≤ 4) by omega)]
        rw [if_neg hv] at hf
        exact ⟨fun _ => hf, fun h => absurd rfl h⟩
    · rw [if_neg h1] at hf ⊢
      exact ⟨fun h => absurd rfl h, fun _ => hf⟩
  · have R2 : MRl g2 y D := by rw [eg2]; exact Rg.th
    have M2 : MLy g2 y D.1.1 D.1.2.1 D.1.2.2 F := by rw [eg2]; exact M.th
    have G2 : Ga h g2 y (y + 17) := G.trans (by rw [eg2]; exact Ga.th)
    have e2 : hfI g2 y 0 = (if 0 ≤ f ∧ f < nFr D.1.1 D.1.2.1 D.1.2.2 F then (if 0 ≤ v ∧ v < 5 then 0 else 2) else 1) := by rw [eg2]; exact th_at
    refine ⟨by rw [okA_of R2.1.1], ?_⟩
    rw [jn_def, e2]
    by_cases hh : 0 ≤ f ∧ f < nFr D.1.1 D.1.2.1 D.1.2.2 F
    · rw [if_pos hh] at e2 ⊢
      by_cases hv : 0 ≤ v ∧ v < 5
      · rw [if_pos hv] at e2 ⊢
        exact ⟨fun _ => ⟨by rw [okA_of R2.1.1], d_frameNow M2 (by omega) (by omega) (q F g2 M.isFF hh hv G2 R2 e2)⟩, fun h => absurd (Int.le_refl 0) h⟩
      · rw [if_neg hv] at e2 ⊢
        exact ⟨fun h => absurd h (by omega), fun _ => q2 F g2 M.isFF hh hv G2 R2 e2⟩
    · rw [if_neg hh] at e2 ⊢
      exact ⟨fun h => absurd h (by omega), fun _ => q1 F g2 M.isFF hh G2 R2 e2⟩
theorem d_count {zz : Nat → Nat} {y : Nat} {v : Int} {h : AH} {Q : Int → AH → Prop} {D : DT} (R : MRl h y D)
    (q : (0 ≤ v ∧ v ≤ 12) → ∀ (F : Nat) (h' : AH), isFF D.1.1 D.1.2.1 D.1.2.2 F → Ga h h' y (y + 17) → MRl h' y D → hfI h' y 0 = 0 → Q (if v = 12 then (D.2.2.1 : Int) else numA D.1.1 D.1.2.1 D.1.2.2 F v) h')
    (q1 : ¬ (0 ≤ v ∧ v ≤ 12) → ∀ h' : AH, Ga h h' y (y + 17) → MRl h' y D → hfI h' y 0 = 1 → Q 0 h') : w_X7_count zz y v h Q := by
  unfold w_X7_count
  refine d_within ?_
  rw [jn_def]
  by_cases hv : 0 ≤ v ∧ v ≤ 12
  · rw [if_pos hv]
    refine ⟨fun h => absurd h (by omega), fun _ => ⟨by rw [okP_of R.1.1]; exact ⟨rfl, R.1.2.1⟩, fun g eg => ?_⟩⟩
    have Rg : MRl g y D := by rw [eg]; exact R.th
    have eg0 : hfI g y 0 = 0 := by rw [eg]; exact th_at
    have Gg : Ga h g y (y + 17) := by rw [eg]; exact Ga.th
    refine ⟨by rw [okA_of Rg.1.1], ?_⟩
    rw [eg0]
    refine ⟨fun _ => ⟨by rw [okA_of Rg.1.1], d_layR Rg (fun F g2 G2 R2 M2 e2 _ => ⟨by rw [okA_of R2.1.1], d_counted M2 hv ?_⟩)⟩, fun h => absurd (Int.le_refl 0) h⟩
    rw [R2.2.2.2.1]
    exact q hv F g2 M2.isFF (Gg.trans G2) R2 (by rw [e2]; exact eg0)
  · rw [if_neg hv]
    refine ⟨fun _ => ⟨by rw [okP_of R.1.1]; exact ⟨rfl, R.1.2.1⟩, fun g eg => ?_⟩, fun h => absurd rfl h⟩
    have Rg : MRl g y D := by rw [eg]; exact R.th
    have eg0 : hfI g y 0 = 1 := by rw [eg]; exact th_at
    have Gg : Ga h g y (y + 17) := by rw [eg]; exact Ga.th
    refine ⟨by rw [okA_of Rg.1.1], ?_⟩
    rw [eg0]
    exact ⟨fun h => absurd h (by omega), fun _ => q1 hv g Gg Rg eg0⟩
theorem un_back {st : Nat → Int} {k : Nat} {v : Int} : un (un st k v) k (st k) = st := by
  funext j
  unfold un
  by_cases e : j = k
  · rw [if_pos e, e]
  · rw [if_neg e, if_neg e]
theorem d_ifNow {zz : Nat → Nat} {y : Nat} {s v u : Int} {h : AH} {Q : Int → AH → Prop} {D : DT} (R : MRl h y D) (hs : 0 ≤ s ∧ s < 8) (hv : lowV s ≤ v ∧ v ≤ topV s) (hu : 0 ≤ u ∧ u < 12)
    (q : ∀ (F : Nat) (h' : AH), isFF D.1.1 D.1.2.1 (un D.1.2.2 s.toNat v) F → Ga h h' y (y + 17) → MRl h' y D → hfI h' y 0 = hfI h y 0 → Q (numA D.1.1 D.1.2.1 (un D.1.2.2 s.toNat v) F u) h') : w_X7_ifNow zz y s v u h Q := by
  obtain ⟨k, hk⟩ : ∃ k : Nat, s = (k : Int) := ⟨s.toNat, by omega⟩
  subst hk
  have ek : ((k : Nat) : Int).toNat = k := rfl
  rw [ek] at q
  unfold w_X7_ifNow
  refine ⟨by rw [okA_of R.1.1], d_of R.1 R.2.1 hs ?_⟩
  rw [ek]
  have K := R.1
  refine ⟨by rw [okA_of K.1], y + 1, K.2.2.2.1, by unfold inR; omega, by rw [okW_of K.2.2.1.1]; have := K.2.1; omega, fun g1 eg1 => ?_⟩
  have F1 : Fr h g1 (y + 1) (y + 2) := by rw [eg1]; exact Fr.sa (by omega) (by omega)
  have Z1 : ZR g1 y D.1.1 D.1.2.1 (un D.1.2.2 k v) := by rw [eg1]; exact R.2.1.set (by omega) rfl
  have R1 := R.z (D' := (D.1.1, D.1.2.1, un D.1.2.2 k v)) F1 Z1 ⟨R.2.2.1.1, R.2.2.1.2.1, GS_un R.2.2.1.2.2 (by omega) hv⟩
  refine ⟨by rw [okA_of R1.1.1], d_layR R1 (fun F g2 G2 R2 M2 e2 _ => ⟨by rw [okA_of R2.1.1], d_counted M2 (by omega) ?_⟩)⟩
  rw [if_neg (by omega)]
  have K2 := R2.1
  refine ⟨by rw [okA_of K2.1], y + 1, K2.2.2.2.1, by unfold inR; omega, by rw [okW_of K2.2.2.1.1]; have := K2.2.1; omega, fun g3 eg3 => ?_⟩
  have F3 : Fr g2 g3 (y + 1) (y + 2) := by rw [eg3]; exact Fr.sa (by omega) (by omega)
  have Z3 : ZR g3 y D.1.1 D.1.2.1 D.1.2.2 := by
    have := R2.2.1.set (i := k) (v := D.1.2.2 k) (by omega) (s := (160 : Int) + (k : Int)) rfl
    rw [← eg3] at this
    have e : un (un D.1.2.2 k v) k (D.1.2.2 k) = D.1.2.2 := un_back
    show ZR g3 y D.1.1 D.1.2.1 D.1.2.2
    rw [← e]; exact this
  exact q F g3 M2.isFF ((F1.ga (by omega) (by omega)).trans (G2.trans (F3.ga (by omega) (by omega)))) (R2.z (D' := D.1) F3 Z3 R.2.2.1) (by rw [F3.fi (by omega), e2, F1.fi (by omega)])
theorem d_ifSet {zz : Nat → Nat} {y : Nat} {s v u : Int} {h : AH} {Q : Int → AH → Prop} {D : DT} (R : MRl h y D)
    (q : (0 ≤ s ∧ s < 8) → ((lowV s ≤ v ∧ v ≤ topV s) ∧ 0 ≤ u ∧ u < 12) → ∀ (F : Nat) (h' : AH), isFF D.1.1 D.1.2.1 (un D.1.2.2 s.toNat v) F → Ga h h' y (y + 17) → MRl h' y D → hfI h' y 0 = 0 → Q (numA D.1.1 D.1.2.1 (un D.1.2.2 s.toNat v) F u) h')
    (q1 : ¬ (0 ≤ s ∧ s < 8) → ∀ h' : AH, Ga h h' y (y + 17) → MRl h' y D → hfI h' y 0 = 1 → Q 0 h')
    (q2 : (0 ≤ s ∧ s < 8) → ¬ ((lowV s ≤ v ∧ v ≤ topV s) ∧ 0 ≤ u ∧ u < 12) → ∀ h' : AH, Ga h h' y (y + 17) → MRl h' y D → hfI h' y 0 = 2 → Q 0 h') : w_X7_ifSet zz y s v u h Q := by
  unfold w_X7_ifSet
  refine d_isSetting (jn_a1 (if 0 ≤ s ∧ s < 8 then (if (lowV s ≤ v ∧ v ≤ topV s) ∧ 0 ≤ u ∧ u < 12 then 0 else 2) else 1) h (fun f hf => ?_) ⟨by rw [okP_of R.1.1]; exact ⟨rfl, R.1.2.1⟩, fun g eg => ?_⟩)
  · by_cases hs : 0 ≤ s ∧ s < 8
    · rw [if_pos hs] at hf ⊢
      refine ⟨fun _ => d_isValue hs ?_, fun h => absurd h (by omega)⟩
      rw [jn_def]
      by_cases hv : lowV s ≤ v ∧ v ≤ topV s
      · rw [if_pos hv]
        refine ⟨fun h => absurd h (by omega), fun _ => d_within ?_⟩
        by_cases hu : 0 ≤ u ∧ u < 12
        · rw [if_pos (show 0 ≤ u ∧ u ≤ 11 by omega)]
          rw [if_pos ⟨hv, hu⟩] at hf
          exact ⟨fun h => absurd h (by omega), fun _ => hf⟩
        · rw [if_neg (show ¬ (0 ≤ u ∧ u ≤ 11) by omega)]
          rw [if_neg (fun h => hu h.2)] at hf
          exact ⟨fun _ => hf, fun h => absurd rfl h⟩
      · rw [if_neg hv]
        rw [if_neg (fun h => hv h.1)] at hf
        exact ⟨fun _ => hf, fun h => absurd rfl h⟩
    · rw [if_neg hs] at hf ⊢
      exact ⟨fun h => absurd rfl h, fun _ => hf⟩
  · have Rg : MRl g y D := by rw [eg]; exact R.th
    have e2 : hfI g y 0 = (if 0 ≤ s ∧ s < 8 then (if (lowV s ≤ v ∧ v ≤ topV s) ∧ 0 ≤ u ∧ u < 12 then 0 else 2) else 1) := by rw [eg]; exact th_at
    have Gg : Ga h g y (y + 17) := by rw [eg]; exact Ga.th
    refine ⟨by rw [okA_of Rg.1.1], ?_⟩
    rw [jn_def, e2]
    by_cases hs : 0 ≤ s ∧ s < 8
    · rw [if_pos hs] at e2 ⊢
      by_cases hv : (lowV s ≤ v ∧ v ≤ topV s) ∧ 0 ≤ u ∧ u < 12
      · rw [if_pos hv] at e2 ⊢
        refine ⟨fun _ => ⟨by rw [okA_of Rg.1.1], d_ifNow Rg hs hv.1 hv.2 (fun F g2 iF G2 R2 e3 => ?_)⟩, fun h => absurd (Int.le_refl 0) h⟩
        exact q hs hv F g2 iF (Gg.trans G2) R2 (by rw [e3]; exact e2)
      · rw [if_neg hv] at e2 ⊢
        exact ⟨fun h => absurd h (by omega), fun _ => q2 hs hv g Gg Rg e2⟩
    · rw [if_neg hs] at e2 ⊢
      exact ⟨fun h => absurd h (by omega), fun _ => q1 hs g Gg Rg e2⟩
theorem d_best {zz : Nat → Nat} {y : Nat} {h : AH} {Q : Int → AH → Prop} {D : DT} (R : MRl h y D) (q : ∀ h' : AH, Ga h h' y (y + 17) → MRl h' y D → Q 0 h') : w_X7_best zz y h Q := by
  unfold w_X7_best
  refine ⟨by rw [okP_of R.1.1]; exact ⟨rfl, R.1.2.1⟩, fun g eg => ?_⟩
  have Rg : MRl g y D := by rw [eg]; exact R.th
  have Gg : Ga h g y (y + 17) := by rw [eg]; exact Ga.th
  refine ⟨by rw [okA_of Rg.1.1], d_layR Rg (fun F g2 G2 R2 M2 e2 _ => ⟨by rw [okA_of R2.1.1], d_bestNow M2 (fun g3 L3 Z3 => ?_)⟩)⟩
  exact q g3 (Gg.trans (G2.trans (L3.1.ga (by omega) (by omega)))) (R2.lb L3 Z3)
theorem d_likeness {zz : Nat → Nat} {y : Nat} {h : AH} {Q : UInt64 → AH → Prop} {D : DT} (R : MRl h y D) (q : ∀ h' : AH, Ga h h' y (y + 17) → MRl h' y D → Q (likA D.1.1 D.1.2.1 D.1.2.2) h') : w_X7_likeness zz y h Q := by
  unfold w_X7_likeness
  refine ⟨by rw [okP_of R.1.1]; exact ⟨rfl, R.1.2.1⟩, fun g eg => ?_⟩
  have Rg : MRl g y D := by rw [eg]; exact R.th
  have Gg : Ga h g y (y + 17) := by rw [eg]; exact Ga.th
  exact ⟨by rw [okA_of Rg.1.1], d_layR Rg (fun F g2 G2 R2 M2 e2 _ => ⟨by rw [okA_of R2.1.1], d_likenessNow M2 (q g2 (Gg.trans G2) R2)⟩)⟩
