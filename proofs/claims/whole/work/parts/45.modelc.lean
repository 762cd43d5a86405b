/-! THE PURE LAYER, 29: the model's nearest letters -/
theorem jn_a1 {α : Type} {B : α → AH → Prop} {K : (α → AH → Prop) → Prop} (x : α) (g : AH) (hK : ∀ k : α → AH → Prop, k x g → K k) (hB : B x g) : jn B K := by
  rw [jn_def]; exact hK B hB
theorem jn_a0 {B : AH → Prop} {K : (AH → Prop) → Prop} (g : AH) (hK : ∀ k : AH → Prop, k g → K k) (hB : B g) : jn B K := by
  rw [jn_def]; exact hK B hB
theorem d_canPair {zz : Nat → Nat} {y i j : Nat} {k reach : Int} {h : AH} {Q : Int → AH → Prop} {c0 c1 st : Nat → Int} {σ : PT} (V : MV0 h y c0 c1 st) (P : MP h y c0 c1 σ) (hi : i < Nc c0) (hj : j < Nc c1) (hk : k = 2 ∨ k = 3) (hr : reach = if k = 2 then st 1 else st 2) (q : Q (if canP c0 c1 st k reach σ i j = true then 1 else 0) h) : w_X7_canPair zz y i j k h Q := by
  have hcan : canP c0 c1 st k reach σ i j = true ↔ ((σ.1 i = -1 ∧ σ.2.1 j = -1) ∧ dsL c0 c1 st i j ≤ reach ∧ (st 3 = 0 ∨ Lc c0 i / 16 = Lc c1 j / 16) ∧ (k ≠ 2 ∨ eqB c0 c1 i j = true)) := by
    unfold canP
    simp only [Bool.and_eq_true, Bool.or_eq_true, decide_eq_true_eq]
    constructor
    · rintro ⟨⟨⟨⟨a, b⟩, c⟩, d⟩, e⟩; exact ⟨⟨a, b⟩, e, d, c⟩
    · rintro ⟨⟨a, b⟩, e, d, c⟩; exact ⟨⟨⟨⟨a, b⟩, c⟩, d⟩, e⟩
  have V0 := V
  obtain ⟨K, Z, ⟨l1, l2, l3, l4⟩, g0, g1, gs⟩ := V
  have h0 := g0.n
  have h1 := g1.n
  obtain ⟨kt, kl, ⟨ka1, ka2, ka3, ka4, ka5, ka6, ka7, ka8, ka9, ka10, ka11, ka12, ka13, ka14, ka15, ka16⟩, ⟨kr1, kr2, kr3, kr4, kr5, kr6, kr7, kr8, kr9, kr10, kr11, kr12, kr13, kr14, kr15, kr16⟩⟩ := K
  have K := V0.1
  unfold w_X7_canPair
  have lt0 := Lc_lt hi
  have lt1 := Lc_lt hj
  refine ⟨by rw [okA_of kt], y + 7, kr7, by rw [okI_of ka7]; omega, jn_a1 (if σ.1 i = -1 ∧ σ.2.1 j = -1 then 1 else 0) h (fun f hf => ?_) ⟨by rw [okA_of kt], d_distance V0 hi hj (jn_a1 (if k = 2 then 1 else 2) h (fun f hf => ?_) ⟨by rw [okA_of kt], d_of K Z (by split <;> omega) (jn_a1 (if dsL c0 c1 st i j ≤ reach then 1 else 0) h (fun f hf => ?_) ⟨by rw [okA_of kt], d_of K Z (by omega) (jn_a1 (if st 3 = 0 ∨ Lc c0 i / 16 = Lc c1 j / 16 then 1 else 0) h (fun f hf => ?_) (jn_a1 (if canP c0 c1 st k reach σ i j = true then 1 else 0) h (fun f hf => ?_) ⟨by split <;> simp, q⟩))⟩)⟩)⟩⟩
  · rw [(P.1 i hi).1, jn_def]
    refine ⟨fun n1 => ?_, fun p1 => ⟨by rw [okA_of kt], y + 7, kr7, by unfold inR; omega, by rw [okI_of ka7]; omega, ?_⟩⟩
    · rw [if_neg (fun h => n1 h.1)] at hf; exact hf
    · rw [(P.2 j hj).1]
      refine ⟨fun n2 => ?_, fun p2 => ?_⟩
      · rw [if_neg (fun h => n2 h.2)] at hf; exact hf
      · rw [if_pos ⟨p1, p2⟩] at hf; exact hf
  · refine ⟨fun n => ?_, fun p => ?_⟩
    · rw [if_neg n] at hf; exact hf
    · rw [if_pos p] at hf; exact hf
  · have er : st (if k = 2 then (1 : Int) else 2).toNat = reach := by
      rw [hr]
      rcases hk with rfl | rfl
      · rfl
      · rfl
    rw [er]
    refine ⟨fun n => ?_, fun p => ?_⟩
    · rw [if_neg (by omega)] at hf; exact hf
    · rw [if_pos (by omega)] at hf; exact hf
  · have e3 : st (3 : Int).toNat = st 3 := rfl
    rw [jn_def, e3]
    refine ⟨fun n => ?_, fun p => ⟨by rw [okA_of kt], y + 5, kr5, by rw [okI_of ka5]; omega, ?_⟩⟩
    · rw [if_pos (.inl n)] at hf; exact hf
    · rw [(l3 i hi).1]
      refine ⟨⟨by omega, by omega⟩, by rw [okA_of kt], y + 5, kr5, by unfold inR; omega, by rw [okI_of ka5]; omega, ?_⟩
      rw [(l4 j hj).1]
      refine ⟨⟨by omega, by omega⟩, fun n2 => ?_, fun p2 => ?_⟩
      · rw [if_neg (fun h => by rcases h with h | h <;> omega)] at hf; exact hf
      · rw [if_pos (.inr (by omega))] at hf; exact hf
  · rw [jn_def]
    by_cases A : σ.1 i = -1 ∧ σ.2.1 j = -1
    · rw [if_pos A]
      refine ⟨fun h => absurd h (by omega), fun _ => ?_⟩
      by_cases B : dsL c0 c1 st i j ≤ reach
      · rw [if_pos B]
        refine ⟨fun h => absurd h (by omega), fun _ => ?_⟩
        by_cases C : st 3 = 0 ∨ Lc c0 i / 16 = Lc c1 j / 16
        · rw [if_pos C]
          refine ⟨fun h => absurd h (by omega), fun _ => ?_⟩
          rw [jn_def]
          refine ⟨fun k3 => ?_, fun k3 => ⟨by rw [okA_of kt], d_areEqual V0 hi hj ?_⟩⟩
          · rw [if_pos (hcan.mpr ⟨A, B, C, .inl (by omega)⟩)] at hf; exact hf
          · by_cases E : eqB c0 c1 i j = true
            · rw [if_pos (hcan.mpr ⟨A, B, C, .inr E⟩)] at hf
              rw [if_pos E]
              exact ⟨fun h => absurd h (by omega), fun _ => hf⟩
            · rw [if_neg (fun h => by
                rcases (hcan.mp h).2.2.2 with h | h
                · omega
                · exact E h)] at hf
              rw [if_neg E]
              exact ⟨fun _ => hf, fun h => absurd rfl h⟩
        · rw [if_neg (fun h => C (hcan.mp h).2.2.1)] at hf
          rw [if_neg C]
          exact ⟨fun _ => hf, fun h => absurd rfl h⟩
      · rw [if_neg (fun h => B (hcan.mp h).2.1)] at hf
        rw [if_neg B]
        exact ⟨fun _ => hf, fun h => absurd rfl h⟩
    · rw [if_neg (fun h => A (hcan.mp h).1)] at hf
      rw [if_neg A]
      exact ⟨fun _ => hf, fun h => absurd rfl h⟩
/-- the best pair so far, as the model keeps it -/
def enm (b : Option (Nat × Nat)) (x3 x4 : Int) : Prop := match b with
  | none => x3 = -1 ∧ x4 = -1
  | some (x, y) => x3 = (x : Int) ∧ x4 = (y : Int)
set_option maxHeartbeats 2000000 in
theorem d_layNearest {zz : Nat → Nat} {y : Nat} {k reach : Int} {h : AH} {Q : AH → Prop} {c0 c1 st : Nat → Int} {σ : PT} (V : MV0 h y c0 c1 st) (P : MP h y c0 c1 σ) (hk : k = 2 ∨ k = 3) (hr : reach = if k = 2 then st 1 else st 2) (q : ∀ h' : AH, Fr h h' (y + 7) (y + 9) → MP h' y c0 c1 (nrs (canP c0 c1 st k reach) (dsL c0 c1 st) (Nc c0) (Nc c1) k σ 40) → Q h') : w_X7_layNearest zz y k h Q := by
  have h0 := V.2.2.2.1.n
  have h1 := V.2.2.2.2.1.n
  unfold w_X7_layNearest
  obtain ⟨τ, hτ⟩ : ∃ τ : Nat → PT, ∀ u, τ u = nrs (canP c0 c1 st k reach) (dsL c0 c1 st) (Nc c0) (Nc c1) k σ u := ⟨_, fun _ => rfl⟩
  have τ0 : τ 0 = σ := by rw [hτ]; rfl
  have τs : ∀ u, τ (u + 1) = nr1 (canP c0 c1 st k reach) (dsL c0 c1 st) (Nc c0) (Nc c1) k (τ u) := fun u => by rw [hτ, hτ]; rfl
  have τf : ∀ u, scI (canP c0 c1 st k reach (τ u)) (dsL c0 c1 st) (Nc c1) (Nc c0) = none ∨ cK (τ u).1 (Nc c0) (-1) + u ≤ Nc c0 := fun u => by rw [hτ]; exact nrs_free canP_free u
  have τe : ∀ u, u ≤ 40 → scI (canP c0 c1 st k reach (τ u)) (dsL c0 c1 st) (Nc c1) (Nc c0) = none → τ 40 = τ u := by
    intro u hu e
    rw [hτ] at e
    have := nrs_stay e (40 - u)
    rw [show u + (40 - u) = 40 by omega] at this
    rw [hτ, hτ]; exact this
  rw [← hτ] at q
  clear hτ
  obtain ⟨I, hI⟩ : ∃ I : Nat → Int → AH → Prop, ∀ m x2 h', I m x2 h' ↔ ∃ u : Nat, u ≤ 40 ∧ Fr h h' (y + 7) (y + 9) ∧ MP h' y c0 c1 (τ u) ∧ (m = cK (τ u).1 (Nc c0) (-1) + 1 ∧ x2 = 1 ∨ m = 0 ∧ x2 = 0 ∧ scI (canP c0 c1 st k reach (τ u)) (dsL c0 c1 st) (Nc c1) (Nc c0) = none) := ⟨_, fun _ _ _ => Iff.rfl⟩
  refine ⟨I, ⟨_, (hI _ _ _).mpr ⟨0, by omega, Fr.refl _ _ _, by rw [τ0]; exact P, .inl ⟨rfl, rfl⟩⟩⟩, ?_⟩
  intro m x2 g hi9
  obtain ⟨u, hu, F, Pu, hm⟩ := (hI _ _ _).mp hi9
  refine ⟨fun hz => ?_, fun hnz => ?_⟩
  · rcases hm with ⟨-, hm⟩ | ⟨-, -, hm⟩
    · omega
    · rw [τe u hu hm] at q; exact q g F Pu
  obtain rfl : m = cK (τ u).1 (Nc c0) (-1) + 1 := by
    rcases hm with ⟨hm, -⟩ | ⟨-, hm, -⟩
    · exact hm
    · omega
  clear hm hi9
  have Vg := V.fr F (by omega)
  have K := Vg.1
  have K0 := K
  obtain ⟨kt, kl, ⟨ka1, ka2, ka3, ka4, ka5, ka6, ka7, ka8, ka9, ka10, ka11, ka12, ka13, ka14, ka15, ka16⟩, ⟨kr1, kr2, kr3, kr4, kr5, kr6, kr7, kr8, kr9, kr10, kr11, kr12, kr13, kr14, kr15, kr16⟩⟩ := K
  have n0 : haI g (y + 4) 0 = (Nc c0 : Int) := Vg.2.2.1.1
  have n1 : haI g (y + 4) 1 = (Nc c1 : Int) := Vg.2.2.1.2.1
  obtain ⟨J, hJ⟩ : ∃ J : Nat → Int → Int → Int → AH → Prop, ∀ m x3 x4 x5 h', J m x3 x4 x5 h' ↔ ∃ i : Nat, i ≤ Nc c0 ∧ m = Nc c0 - i ∧ x5 = (i : Int) ∧ h' = g ∧ enm (scI (canP c0 c1 st k reach (τ u)) (dsL c0 c1 st) (Nc c1) i) x3 x4 := ⟨_, fun _ _ _ _ _ => Iff.rfl⟩
  refine ⟨J, ⟨_, (hJ _ _ _ _ _).mpr ⟨0, by omega, rfl, rfl, rfl, rfl, rfl⟩⟩, ?_⟩
  intro m x3 x4 x5 g' hj9
  obtain ⟨i, hi, rfl, rfl, rfl, E⟩ := (hJ _ _ _ _ _).mp hj9
  have W := scI_w (can := canP c0 c1 st k reach (τ u)) (d := dsL c0 c1 st) (n1 := Nc c1) i hi
  refine ⟨by rw [okA_of kt], y + 4, kr4, by rw [okI_of ka4]; omega, ?_⟩
  rw [n0]
  refine ⟨fun hc => ?_, fun hc => ?_⟩
  · obtain rfl : i = Nc c0 := by omega
    simp only [jn_def]
    cases e : scI (canP c0 c1 st k reach (τ u)) (dsL c0 c1 st) (Nc c1) (Nc c0) with
    | none =>
      rw [e] at E
      obtain ⟨rfl, rfl⟩ := E
      exact ⟨fun _ => ⟨fun _ => ⟨0, by omega, (hI _ _ _).mpr ⟨u, hu, F, Pu, .inr ⟨rfl, rfl, e⟩⟩⟩, fun h => absurd trivial h⟩, fun h => absurd rfl h⟩
    | some z =>
      obtain ⟨a, b⟩ := z
      rw [e] at E
      obtain ⟨rfl, rfl⟩ := E
      have w2 := W a b e
      have w3 := canP_free _ _ _ w2.2.2
      refine ⟨fun hx => absurd hx (by omega), fun _ => ⟨fun hx => absurd hx (by omega), fun _ => ⟨by rw [okA_of kt], ?_⟩⟩⟩
      refine d_pair K0 Pu w2.1 w2.2.1 h0 h1 (fun g3 F3 P3 => ?_)
      have st1 : τ (u + 1) = pup (τ u) a b k := by
        rw [τs]; unfold nr1; rw [e]
      have hc1 := cK_un (f := (τ u).1) (v := -1) (w := (b : Int)) w2.1
      rw [if_pos w3.1, if_neg (by omega)] at hc1
      have hc2 : cK (τ (u + 1)).1 (Nc c0) (-1) + 1 = cK (τ u).1 (Nc c0) (-1) := by
        rw [st1]; exact hc1
      have hu2 : u + 1 ≤ 40 := by
        rcases τf u with h | h
        · rw [e] at h; cases h
        · omega
      exact ⟨cK (τ (u + 1)).1 (Nc c0) (-1) + 1, by omega, (hI _ _ _).mpr ⟨u + 1, hu2, F.trans F3, by rw [st1]; exact P3, .inl ⟨rfl, rfl⟩⟩⟩
  · have hi8 : i < Nc c0 := by omega
    obtain ⟨L, hL⟩ : ∃ L : Nat → Int → Int → Int → AH → Prop, ∀ m x3 x4 x7 g2, L m x3 x4 x7 g2 ↔ ∃ j : Nat, j ≤ Nc c1 ∧ m = Nc c1 - j ∧ x7 = (j : Int) ∧ g2 = g' ∧ enm (scJ (canP c0 c1 st k reach (τ u)) (dsL c0 c1 st) i (scI (canP c0 c1 st k reach (τ u)) (dsL c0 c1 st) (Nc c1) i) j) x3 x4 := ⟨_, fun _ _ _ _ _ => Iff.rfl⟩
    refine ⟨L, ⟨_, (hL _ _ _ _ _).mpr ⟨0, by omega, rfl, rfl, rfl, E⟩⟩, ?_⟩
    intro m y3 y4 x7 g2 hl9
    obtain ⟨j, hj, rfl, rfl, rfl, E2⟩ := (hL _ _ _ _ _).mp hl9
    refine ⟨by rw [okA_of kt], y + 4, kr4, by rw [okI_of ka4]; omega, ?_⟩
    rw [n1]
    refine ⟨fun hc2 => ?_, fun hc2 => ?_⟩
    · obtain rfl : j = Nc c1 := by omega
      refine ⟨by unfold inR; omega, ?_⟩
      intro x8 e8
      exact ⟨Nc c0 - (i + 1), by omega, (hJ _ _ _ _ _).mpr ⟨i + 1, by omega, rfl, by omega, rfl, E2⟩⟩
    · have hj8 : j < Nc c1 := by omega
      have W2 := scJ_w (can := canP c0 c1 st k reach (τ u)) (d := dsL c0 c1 st) W hi8 j hj
      refine ⟨by rw [okA_of kt], d_canPair Vg Pu hi8 hj8 hk hr ?_⟩
      have go : ∀ z3 z4, enm (sc1 (canP c0 c1 st k reach (τ u)) (dsL c0 c1 st) (scJ (canP c0 c1 st k reach (τ u)) (dsL c0 c1 st) i (scI (canP c0 c1 st k reach (τ u)) (dsL c0 c1 st) (Nc c1) i) j) i j) z3 z4 → (inR ((j : Int) + 1) ∧ ∀ x6_81 : Int, x6_81 = ((j : Int) + 1) → ∃ m, m < Nc c1 - j ∧ L m z3 z4 x6_81 g2) := fun z3 z4 hz => ⟨by unfold inR; omega, fun x6 e6 => ⟨Nc c1 - (j + 1), by omega, (hL _ _ _ _ _).mpr ⟨j + 1, by omega, rfl, by omega, rfl, hz⟩⟩⟩
      simp only [jn_def]
      cases eb : scJ (canP c0 c1 st k reach (τ u)) (dsL c0 c1 st) i (scI (canP c0 c1 st k reach (τ u)) (dsL c0 c1 st) (Nc c1) i) j with
      | none =>
        rw [eb] at E2 go
        obtain ⟨rfl, rfl⟩ := E2
        unfold sc1 at go
        simp only at go
        by_cases hcan : canP c0 c1 st k reach (τ u) i j = true
        · rw [if_pos hcan]
          rw [if_pos hcan] at go
          exact ⟨fun h => absurd h (by omega), fun _ => ⟨fun _ => go _ _ ⟨rfl, rfl⟩, fun h => absurd rfl h⟩⟩
        · rw [if_neg hcan]
          rw [if_neg hcan] at go
          exact ⟨fun _ => go _ _ ⟨rfl, rfl⟩, fun h => absurd rfl h⟩
      | some z =>
        obtain ⟨a, b⟩ := z
        have w2 := W2 a b eb
        rw [eb] at E2 go
        obtain ⟨rfl, rfl⟩ := E2
        unfold sc1 at go
        simp only at go
        by_cases hcan : canP c0 c1 st k reach (τ u) i j = true
        · rw [if_pos hcan]
          refine ⟨fun h => absurd h (by omega), fun _ => ⟨fun h => absurd h (by omega), fun _ => ⟨by rw [okA_of kt], d_distance Vg hi8 hj8 ⟨by rw [okA_of kt], d_distance Vg w2.1 w2.2.1 ⟨fun hle => go _ _ ?_, fun hgt => go _ _ ?_⟩⟩⟩⟩⟩
          · rw [if_neg (fun h => by have := h.2; omega)]; exact ⟨rfl, rfl⟩
          · rw [if_pos ⟨hcan, by omega⟩]; exact ⟨rfl, rfl⟩
        · rw [if_neg hcan]
          rw [if_neg (fun h => hcan h.1)] at go
          exact ⟨fun _ => go _ _ ⟨rfl, rfl⟩, fun h => absurd rfl h⟩
