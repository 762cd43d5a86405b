/-! THE PURE LAYER, 28: the model's common letters -/
theorem d_pair {zz : Nat → Nat} {y i j : Nat} {k : Int} {h : AH} {Q : AH → Prop} {c0 c1 : Nat → Int} {σ : PT} (K : MdK h y) (P : MP h y c0 c1 σ) (hi : i < Nc c0) (hj : j < Nc c1) (h0 : Nc c0 ≤ 40) (h1 : Nc c1 ≤ 40) (q : ∀ h' : AH, Fr h h' (y + 7) (y + 9) → MP h' y c0 c1 (pup σ i j k) → Q h') : w_X7_pair zz y i j k h Q := by
  unfold w_X7_pair
  refine ⟨by rw [okA_of K.1], y + 7, K.2.2.2.2.2.2.2.2.2.1, by rw [okW_of K.2.2.1.2.2.2.2.2.2.1]; have := K.2.1; omega, ?_⟩
  intro g1 e1
  have F1 : Fr h g1 (y + 7) (y + 9) := by rw [e1]; exact Fr.sa (by omega) (by omega)
  have K := K.fr F1
  refine ⟨by rw [okA_of K.1], y + 7, K.2.2.2.2.2.2.2.2.2.1, by unfold inR; omega, by rw [okW_of K.2.2.1.2.2.2.2.2.2.1]; have := K.2.1; omega, ?_⟩
  intro g2 e2
  have F2 : Fr g1 g2 (y + 7) (y + 9) := by rw [e2]; exact Fr.sa (by omega) (by omega)
  have K := K.fr F2
  refine ⟨by rw [okA_of K.1], y + 8, K.2.2.2.2.2.2.2.2.2.2.1, by rw [okW_of K.2.2.1.2.2.2.2.2.2.2.1]; have := K.2.1; omega, ?_⟩
  intro g3 e3
  have F3 : Fr g2 g3 (y + 7) (y + 9) := by rw [e3]; exact Fr.sa (by omega) (by omega)
  have K := K.fr F3
  refine ⟨by rw [okA_of K.1], y + 8, K.2.2.2.2.2.2.2.2.2.2.1, by unfold inR; omega, by rw [okW_of K.2.2.1.2.2.2.2.2.2.2.1]; have := K.2.1; omega, ?_⟩
  intro g4 e4
  have F4 : Fr g3 g4 (y + 7) (y + 9) := by rw [e4]; exact Fr.sa (by omega) (by omega)
  have v7 : haI g4 (y + 7) = u1 (u1 (haI h (y + 7)) (i : Int) (j : Int)) ((40 : Int) + (j : Int)) (i : Int) := by
    rw [e4, haI_saI, if_neg (by omega), e3, haI_saI, if_neg (by omega), e2, haI_saI, if_pos rfl, e1, haI_saI, if_pos rfl]
  have v8 : haI g4 (y + 8) = u1 (u1 (haI h (y + 8)) (i : Int) k) ((40 : Int) + (j : Int)) k := by
    rw [e4, haI_saI, if_pos rfl, e3, haI_saI, if_pos rfl, e2, haI_saI, if_neg (by omega), e1, haI_saI, if_neg (by omega)]
  refine q g4 (F1.trans (F2.trans (F3.trans F4))) ⟨fun x hx => ?_, fun x hx => ?_⟩
  · have nn : ¬ (x : Int) = (40 : Int) + (j : Int) := by omega
    rw [v7, v8, u1_apply, u1_apply, u1_apply, u1_apply, if_neg nn, if_neg nn]
    show _ = un σ.1 i j x ∧ _ = un σ.2.2.1 i k x
    by_cases e : x = i
    · subst e; rw [if_pos rfl, if_pos rfl, un_s, un_s]; exact ⟨rfl, rfl⟩
    · have n2 : ¬ (x : Int) = (i : Int) := by omega
      rw [if_neg n2, if_neg n2, un_n e, un_n e]; exact P.1 x hx
  · rw [v7, v8, u1_apply, u1_apply, u1_apply, u1_apply]
    show _ = un σ.2.1 j i x ∧ _ = un σ.2.2.2 j k x
    by_cases e : x = j
    · subst e; rw [if_pos rfl, if_pos rfl, un_s, un_s]; exact ⟨rfl, rfl⟩
    · have n1 : ¬ (40 : Int) + (x : Int) = (40 : Int) + (j : Int) := by omega
      have n2 : ¬ (40 : Int) + (x : Int) = (i : Int) := by omega
      rw [if_neg n1, if_neg n1, if_neg n2, if_neg n2, un_n e, un_n e]; exact P.2 x hx
def LTm (h : AH) (y : Nat) (c0 c1 : Nat → Int) : Prop := ∀ i j : Nat, i ≤ Nc c0 → j ≤ Nc c1 → haI h (y + 9) (41 * i + j) = (lgT (eqB c0 c1) (Nc c0) (Nc c1) i j : Int)
set_option maxHeartbeats 2000000 in
theorem d_layCommon {zz : Nat → Nat} {y : Nat} {h : AH} {Q : AH → Prop} {c0 c1 st : Nat → Int} (V : MV0 h y c0 c1 st) (P : MP h y c0 c1 pE) (q : ∀ h' : AH, Fr h h' (y + 7) (y + 10) → MP h' y c0 c1 (prC c0 c1) → Q h') : w_X7_layCommon zz y h Q := by
  have h0 := V.2.2.2.1.n
  have h1 := V.2.2.2.2.1.n
  unfold w_X7_layCommon
  obtain ⟨Z, hZ⟩ : ∃ Z : Nat → Int → AH → Prop, ∀ m x h', Z m x h' ↔ ∃ k : Nat, k ≤ 1681 ∧ m = 1681 - k ∧ x = (k : Int) ∧ Fr h h' (y + 9) (y + 10) ∧ ∀ i : Nat, i < k → haI h' (y + 9) i = 0 := ⟨_, fun _ _ _ => Iff.rfl⟩
  refine ⟨Z, ⟨1681, (hZ _ _ _).mpr ⟨0, by omega, rfl, rfl, Fr.refl _ _ _, fun i hi => by omega⟩⟩, ?_⟩
  intro m x g hi9
  obtain ⟨k, hk, rfl, rfl, F0, L0'⟩ := (hZ _ _ _).mp hi9
  have K := V.1.fr F0
  obtain ⟨kt, kl, ⟨ka1, ka2, ka3, ka4, ka5, ka6, ka7, ka8, ka9, ka10, ka11, ka12, ka13, ka14, ka15, ka16⟩, ⟨kr1, kr2, kr3, kr4, kr5, kr6, kr7, kr8, kr9, kr10, kr11, kr12, kr13, kr14, kr15, kr16⟩⟩ := K
  refine ⟨fun hc => ?_, fun hc => ⟨by rw [okA_of kt], y + 9, kr9, by rw [okW_of ka9]; omega, ?_⟩⟩
  rotate_left
  · intro g2 e2
    refine ⟨by unfold inR; omega, ?_⟩
    intro x3 e3
    refine ⟨1681 - (k + 1), by omega, (hZ _ _ _).mpr ⟨k + 1, by omega, rfl, by omega, F0.trans (by rw [e2]; exact Fr.sa (by omega) (by omega)), fun i hi => ?_⟩⟩
    rw [e2, haI_saI, if_pos rfl, u1_apply]
    by_cases e : i = k
    · rw [if_pos (by omega)]
    · rw [if_neg (by omega)]; exact L0' i (by omega)
  obtain rfl : k = 1681 := by omega
  have Vg := V.fr F0 (by omega)
  have n0 : haI g (y + 4) 0 = (Nc c0 : Int) := Vg.2.2.1.1
  refine ⟨by rw [okA_of kt], y + 4, kr4, by rw [okI_of ka4]; omega, ?_⟩
  rw [n0]
  refine ⟨by unfold inR; omega, ?_⟩
  intro x1 ex1
  subst ex1
  have L0 : ltF (eqB c0 c1) (Nc c0) (Nc c1) (haI g (y + 9)) 0 0 := by
    intro i j hi hj
    have := L0' (41 * i + j) (by omega)
    rw [show ((41 * i + j : Nat) : Int) = 41 * (i : Int) + (j : Int) by omega] at this
    rw [this]
    split
    next e => rw [lgT_z (by omega)]; rfl
    next => rfl
  obtain ⟨I, hI⟩ : ∃ I : Nat → Int → AH → Prop, ∀ m x h', I m x h' ↔ ∃ r : Nat, r ≤ Nc c0 ∧ m = Nc c0 - r ∧ x = (Nc c0 : Int) - 1 - (r : Int) ∧ Fr h h' (y + 9) (y + 10) ∧ ltF (eqB c0 c1) (Nc c0) (Nc c1) (haI h' (y + 9)) r 0 := ⟨_, fun _ _ _ => Iff.rfl⟩
  refine ⟨I, ⟨_, (hI _ _ _).mpr ⟨0, by omega, rfl, by omega, F0, L0⟩⟩, ?_⟩
  clear L0 L0' n0 Vg F0 hi9 hc kt kl ka1 ka2 ka3 ka4 ka5 ka6 ka7 ka8 ka9 ka10 ka11 ka12 ka13 ka14 ka15 ka16 kr1 kr2 kr3 kr4 kr5 kr6 kr7 kr8 kr9 kr10 kr11 kr12 kr13 kr14 kr15 kr16
  intro m x g hi9
  obtain ⟨r, hr, rfl, rfl, F, L⟩ := (hI _ _ _).mp hi9
  refine ⟨fun hc9 => ?_, fun hc9 => ?_⟩
  · have LT0 : LTm g y c0 c1 := fun i j hi hj => by rw [L i j hi hj, if_pos (by omega)]
    have P0 := P.fr F (by omega)
    have F1 := F.wide (a' := y + 7) (b' := y + 10) (by omega) (by omega)
    clear F L hi9
    obtain ⟨J, hJ⟩ : ∃ J : Nat → Int → Int → AH → Prop, ∀ m x1 x2 h', J m x1 x2 h' ↔ ∃ k : Nat, k ≤ Nc c0 ∧ m = Nc c0 - k ∧ x2 = (k : Int) ∧ x1 = ((cmn (eqB c0 c1) (Nc c0) (Nc c1) k).1 : Int) ∧ Fr h h' (y + 7) (y + 10) ∧ LTm h' y c0 c1 ∧ MP h' y c0 c1 (cmn (eqB c0 c1) (Nc c0) (Nc c1) k).2 := ⟨_, fun _ _ _ _ => Iff.rfl⟩
    refine ⟨J, ⟨_, (hJ _ _ _ _).mpr ⟨0, by omega, rfl, rfl, rfl, F1, LT0, P0⟩⟩, ?_⟩
    clear F1 LT0 P0
    intro m x1 x2 g hj9
    obtain ⟨k, hk, rfl, rfl, rfl, F, LT1, P1⟩ := (hJ _ _ _ _).mp hj9
    have W := cmn_w (eq := eqB c0 c1) (n0 := Nc c0) (n1 := Nc c1) k hk
    have Vg := V.fr F (by omega)
    have K := Vg.1
    have n0 : haI g (y + 4) 0 = (Nc c0 : Int) := Vg.2.2.1.1
    obtain ⟨kt, kl, ⟨ka1, ka2, ka3, ka4, ka5, ka6, ka7, ka8, ka9, ka10, ka11, ka12, ka13, ka14, ka15, ka16⟩, ⟨kr1, kr2, kr3, kr4, kr5, kr6, kr7, kr8, kr9, kr10, kr11, kr12, kr13, kr14, kr15, kr16⟩⟩ := K
    refine ⟨by rw [okA_of kt], y + 4, kr4, by rw [okI_of ka4]; omega, ?_⟩
    rw [n0]
    refine ⟨fun hc => ?_, fun hc => ?_⟩
    · obtain rfl : k = Nc c0 := by omega
      exact q g F P1
    · have hk8 : k < Nc c0 := by omega
      obtain ⟨fr, hfr⟩ : ∃ fr, fr = (cmn (eqB c0 c1) (Nc c0) (Nc c1) k).1 := ⟨_, rfl⟩
      have W2 : fr ≤ Nc c1 := by rw [hfr]; exact W.2.1
      rw [← hfr]
      refine ⟨by rw [okA_of kt], y + 9, kr9, by unfold inR; omega, by unfold inR; omega, by rw [okI_of ka9]; omega, ?_⟩
      have t0 := LT1 k fr (by omega) W2
      rw [t0]
      intro due hdue
      have bd := lgT_bd (eq := eqB c0 c1) (n0 := Nc c0) (n1 := Nc c1) (i := k) (j := fr)
      obtain ⟨L, hL⟩ : ∃ L : Nat → Int → Int → Int → AH → Prop, ∀ m x1 x4 x5 h', L m x1 x4 x5 h' ↔ (∃ j : Nat, fr ≤ j ∧ j ≤ Nc c1 ∧ m = Nc c1 - j + 1 ∧ x1 = (fr : Int) ∧ x4 = 0 ∧ x5 = (j : Int) ∧ h' = g ∧ ∀ z, fr ≤ z → z < j → cmP (eqB c0 c1) (Nc c0) (Nc c1) k fr z = false) ∨ (m = 0 ∧ x4 = 1 ∧ x1 = ((cmn (eqB c0 c1) (Nc c0) (Nc c1) (k + 1)).1 : Int) ∧ Fr h h' (y + 7) (y + 10) ∧ LTm h' y c0 c1 ∧ MP h' y c0 c1 (cmn (eqB c0 c1) (Nc c0) (Nc c1) (k + 1)).2) := ⟨_, fun _ _ _ _ _ => Iff.rfl⟩
      refine ⟨L, ⟨_, (hL _ _ _ _ _).mpr (.inl ⟨fr, Nat.le_refl _, W2, rfl, rfl, rfl, rfl, rfl, fun z h1 h2 => by omega⟩)⟩, ?_⟩
      intro m x1 x4 x5 g2 hl9
      have fin : ∀ (x1 : Int) (g2 : AH), x1 = ((cmn (eqB c0 c1) (Nc c0) (Nc c1) (k + 1)).1 : Int) → Fr h g2 (y + 7) (y + 10) → LTm g2 y c0 c1 → MP g2 y c0 c1 (cmn (eqB c0 c1) (Nc c0) (Nc c1) (k + 1)).2 → (inR ((k : Int) + 1) ∧ ∀ x2_280 : Int, x2_280 = ((k : Int) + 1) → ∃ m, m < Nc c0 - k ∧ J m x1 x2_280 g2) := by
        intro x1 g2 a1 a2 a3 a4
        refine ⟨by unfold inR; omega, ?_⟩
        intro x e
        exact ⟨Nc c0 - (k + 1), by omega, (hJ _ _ _ _).mpr ⟨k + 1, by omega, rfl, by omega, a1, a2, a3, a4⟩⟩
      have step : cmn (eqB c0 c1) (Nc c0) (Nc c1) (k + 1) = cmS (eqB c0 c1) (Nc c0) (Nc c1) k (cmn (eqB c0 c1) (Nc c0) (Nc c1) k) := rfl
      unfold cmS at step
      rw [← hfr] at step
      have non : (∀ z, fr ≤ z → z < Nc c1 → cmP (eqB c0 c1) (Nc c0) (Nc c1) k fr z = false) → (inR ((k : Int) + 1) ∧ ∀ x2_280 : Int, x2_280 = ((k : Int) + 1) → ∃ m, m < Nc c0 - k ∧ J m (fr : Int) x2_280 g) := by
        intro hno
        rw [fnd_none.mpr (fun z h1 h2 => hno z h1 (by omega))] at step
        refine fin _ _ ?_ F LT1 ?_
        · rw [step, hfr]
        · rw [step]; exact P1
      have hl9' := (hL _ _ _ _ _).mp hl9
      have K2 : MdK g2 y ∧ haI g2 (y + 4) 1 = (Nc c1 : Int) := by
        rcases hl9' with ⟨j, -, -, -, -, -, -, rfl, -⟩ | ⟨-, -, -, F2, -, -⟩
        · exact ⟨Vg.1, Vg.2.2.1.2.1⟩
        · have := V.fr F2 (by omega); exact ⟨this.1, this.2.2.1.2.1⟩
      refine ⟨by rw [okA_of K2.1.1], y + 4, K2.1.2.2.2.2.2.2.1, by rw [okI_of K2.1.2.2.1.2.2.2.1]; omega, ?_⟩
      rw [K2.2, jn_def]
      rcases hl9' with ⟨j, j1, j2, rfl, rfl, rfl, rfl, rfl, hno⟩ | ⟨rfl, rfl, a1, a2, a3, a4⟩
      · refine ⟨fun hc3 => non (fun z h1 h2 => hno z h1 (by omega)), fun hc3 => ⟨fun hc4 => non (fun z h1 h2 => ?_), fun hc4 => ⟨fun h => absurd rfl h, fun _ => ?_⟩⟩⟩
        · unfold cmP
          rw [show lgT (eqB c0 c1) (Nc c0) (Nc c1) k fr = 0 by omega, decide_eq_false (by omega), Bool.and_false]
        · have hj8 : j < Nc c1 := by omega
          have t1' := LT1 (k + 1) (j + 1) (by omega) (by omega)
          rw [show 41 * ((k + 1 : Nat) : Int) + ((j + 1 : Nat) : Int) = (41 : Int) * (k : Int) + (42 : Int) + (j : Int) by omega] at t1'
          have go : cmP (eqB c0 c1) (Nc c0) (Nc c1) k fr j = false → (inR ((j : Int) + 1) ∧ ∀ x5 : Int, x5 = ((j : Int) + 1) → ∃ m, m < Nc c1 - j + 1 ∧ L m (fr : Int) 0 x5 g2) := fun hc => ⟨by unfold inR; omega, fun x5 e5 => ⟨Nc c1 - (j + 1) + 1, by omega, (hL _ _ _ _ _).mpr (.inl ⟨j + 1, by omega, by omega, rfl, rfl, rfl, by omega, rfl, fun z h1 h2 => by
            by_cases e : z = j
            · rw [e]; exact hc
            · exact hno z h1 (by omega)⟩)⟩⟩
          refine ⟨by rw [okA_of kt], d_areEqual Vg hk8 hj8 ?_⟩
          rw [jn_def]
          by_cases he : eqB c0 c1 k j = true
          · rw [if_pos he]
            refine ⟨fun h => absurd h (by omega), fun _ => ⟨by rw [okA_of kt], y + 9, kr9, by unfold inR; omega, by unfold inR; omega, by unfold inR; omega, by rw [okI_of ka9]; omega, ?_⟩⟩
            rw [t1']
            refine ⟨by unfold inR; omega, fun ne => go ?_, fun e => ⟨by rw [okA_of kt], ?_⟩⟩
            · unfold cmP; rw [decide_eq_false (by omega), Bool.and_false]
            · have hcm : cmP (eqB c0 c1) (Nc c0) (Nc c1) k fr j = true := by
                unfold cmP; rw [he, decide_eq_true (by omega)]; rfl
              rw [fnd_is (x := j) j1 (by omega) hcm hno] at step
              refine d_pair Vg.1 P1 hk8 hj8 h0 h1 (fun g3 F3 P3 => ?_)
              refine ⟨by unfold inR; omega, ?_⟩
              intro x6 e6
              refine ⟨by unfold inR; omega, ?_⟩
              intro x7 e7
              refine ⟨0, by omega, (hL _ _ _ _ _).mpr (.inr ⟨rfl, rfl, ?_, F.trans (F3.wide (by omega) (by omega)), fun a b ha hb => by rw [F3.ai (by omega)]; exact LT1 a b ha hb, ?_⟩)⟩
              · rw [step]; show x6 = ((j + 1 : Nat) : Int); omega
              · rw [step]; exact P3
          · rw [if_neg he]
            refine ⟨fun _ => go ?_, fun h => absurd rfl h⟩
            unfold cmP
            rw [show eqB c0 c1 k j = false by simpa using he]; rfl
      · have f := fin x1 g2 a1 a2 a3 a4
        exact ⟨fun _ => f, fun _ => ⟨fun _ => f, fun _ => ⟨fun _ => f, fun h => absurd h (by omega)⟩⟩⟩
  · have K := V.1.fr F
    have Vg := V.fr F (by omega)
    have n1 : haI g (y + 4) 1 = (Nc c1 : Int) := Vg.2.2.1.2.1
    refine ⟨by rw [okA_of K.1], y + 4, K.2.2.2.2.2.2.1, by rw [okI_of K.2.2.1.2.2.2.1]; omega, ?_⟩
    rw [n1]
    refine ⟨by unfold inR; omega, ?_⟩
    intro x2 ex2
    subst ex2
    obtain ⟨J, hJ⟩ : ∃ J : Nat → Int → AH → Prop, ∀ m x h', J m x h' ↔ ∃ k : Nat, k ≤ Nc c1 ∧ m = Nc c1 - k ∧ x = (Nc c1 : Int) - 1 - (k : Int) ∧ Fr h h' (y + 9) (y + 10) ∧ ltF (eqB c0 c1) (Nc c0) (Nc c1) (haI h' (y + 9)) r k := ⟨_, fun _ _ _ => Iff.rfl⟩
    refine ⟨J, ⟨_, (hJ _ _ _).mpr ⟨0, by omega, rfl, by omega, F, L⟩⟩, ?_⟩
    clear K Vg n1
    intro m2 x2 h2 hi2
    obtain ⟨k, hk, rfl, rfl, F2, L2⟩ := (hJ _ _ _).mp hi2
    refine ⟨fun hc8 => ?_, fun hc8 => ?_⟩
    · refine ⟨by unfold inR; omega, ?_⟩
      intro x3 e3
      refine ⟨Nc c0 - (r + 1), by omega, (hI _ _ _).mpr ⟨r + 1, by omega, rfl, by omega, F2, fun i j hi hj => ?_⟩⟩
      rw [L2 i j hi hj]
      have hkk : k = Nc c1 := by omega
      by_cases e5 : Nc c0 - i ≤ r + 1 ∨ Nc c0 - i = r + 1 + 1 ∧ Nc c1 - j ≤ 0
      · rw [if_pos e5]
        by_cases e6 : Nc c0 - i ≤ r ∨ Nc c0 - i = r + 1 ∧ Nc c1 - j ≤ k
        · rw [if_pos e6]
        · rw [if_neg e6, lgT_z (by omega)]; rfl
      · rw [if_neg e5, if_neg (by omega)]
    · obtain ⟨i, hi⟩ : ∃ i : Nat, i = Nc c0 - 1 - r := ⟨_, rfl⟩
      obtain ⟨j, hj⟩ : ∃ j : Nat, j = Nc c1 - 1 - k := ⟨_, rfl⟩
      have ei : (Nc c0 : Int) - 1 - (r : Int) = (i : Int) := by omega
      have ej : (Nc c1 : Int) - 1 - (k : Int) = (j : Int) := by omega
      have hi9 : i < Nc c0 := by omega
      have hj9 : j < Nc c1 := by omega
      rw [ei, ej]
      have V2 := V.fr F2 (by omega)
      have K := V2.1
      obtain ⟨kt, kl, ⟨ka1, ka2, ka3, ka4, ka5, ka6, ka7, ka8, ka9, ka10, ka11, ka12, ka13, ka14, ka15, ka16⟩, ⟨kr1, kr2, kr3, kr4, kr5, kr6, kr7, kr8, kr9, kr10, kr11, kr12, kr13, kr14, kr15, kr16⟩⟩ := K
      have t1' := L2 (i + 1) (j + 1) (by omega) (by omega)
      have t2' := L2 (i + 1) j (by omega) (by omega)
      have t3' := L2 i (j + 1) (by omega) (by omega)
      rw [if_pos (by omega)] at t1' t2' t3'
      rw [show 41 * ((i + 1 : Nat) : Int) + ((j + 1 : Nat) : Int) = (41 : Int) * (i : Int) + (42 : Int) + (j : Int) by omega] at t1'
      rw [show 41 * ((i + 1 : Nat) : Int) + (j : Int) = (41 : Int) * (i : Int) + (41 : Int) + (j : Int) by omega] at t2'
      rw [show 41 * (i : Int) + ((j + 1 : Nat) : Int) = (41 : Int) * (i : Int) + (j : Int) + (1 : Int) by omega] at t3'
      have bd1 := lgT_bd (eq := eqB c0 c1) (n0 := Nc c0) (n1 := Nc c1) (i := i + 1) (j := j + 1)
      have bd2 := lgT_bd (eq := eqB c0 c1) (n0 := Nc c0) (n1 := Nc c1) (i := i + 1) (j := j)
      have bd3 := lgT_bd (eq := eqB c0 c1) (n0 := Nc c0) (n1 := Nc c1) (i := i) (j := j + 1)
      have hs := lgT_s (eq := eqB c0 c1) hi9 hj9
      have fin : ∀ v : Int, v = (lgT (eqB c0 c1) (Nc c0) (Nc c1) i j : Int) → J (Nc c1 - (k + 1)) ((j : Int) + -1) (saI h2 (y + 9) (u1 (haI h2 (y + 9)) ((41 : Int) * (i : Int) + (j : Int)) v)) := by
        intro v hv
        refine (hJ _ _ _).mpr ⟨k + 1, by omega, rfl, by omega, F2.trans (Fr.sa (by omega) (by omega)), fun x z hx hz => ?_⟩
        rw [haI_saI, if_pos rfl, u1_apply]
        by_cases e : x = i ∧ z = j
        · rw [if_pos (by omega), if_pos (by omega), e.1, e.2]; exact hv
        · rw [if_neg (by omega), L2 x z hx hz]
          by_cases e6 : Nc c0 - x ≤ r ∨ Nc c0 - x = r + 1 ∧ Nc c1 - z ≤ k
          · rw [if_pos e6, if_pos (by omega)]
          · rw [if_neg e6, if_neg (by omega)]
      refine ⟨by rw [okA_of kt], y + 9, kr9, by unfold inR; omega, by unfold inR; omega, by unfold inR; omega, by rw [okI_of ka9]; omega, by rw [okA_of kt], y + 9, kr9, by unfold inR; omega, by unfold inR; omega, by unfold inR; omega, by rw [okI_of ka9]; omega, ?_⟩
      simp only [jn_def, t2', t3']
      refine ⟨fun hAB => ⟨by rw [okA_of kt], y + 9, kr9, by unfold inR; omega, by unfold inR; omega, by unfold inR; omega, by rw [okI_of ka9]; omega, by rw [okA_of kt], ?_⟩, fun hAB => ⟨by rw [okA_of kt], y + 9, kr9, by unfold inR; omega, by unfold inR; omega, by unfold inR; omega, by rw [okI_of ka9]; omega, by rw [okA_of kt], ?_⟩⟩
      · simp only [t3']
        refine d_areEqual V2 hi9 hj9 ?_
        by_cases he : eqB c0 c1 i j = true
        · rw [if_pos he]
          rw [if_pos he] at hs
          have hm := lgT_max hi9 hj9 he
          refine ⟨fun h => absurd h (by omega), fun _ => ⟨by rw [okA_of kt], y + 9, kr9, by unfold inR; omega, by unfold inR; omega, by unfold inR; omega, by rw [okI_of ka9]; omega, ?_⟩⟩
          rw [t1']
          refine ⟨by unfold inR; omega, by rw [okA_of kt], y + 9, kr9, by unfold inR; omega, by unfold inR; omega, fun hle => ?_, fun hgt => ?_⟩
          · exact ⟨by rw [okW_of ka9]; omega, fun g3 eg => ⟨by unfold inR; omega, fun x3 ex => ⟨Nc c1 - (k + 1), by omega, by rw [eg, ex]; exact fin _ (by omega)⟩⟩⟩
          · exact ⟨by rw [okW_of ka9]; omega, fun g3 eg => ⟨by unfold inR; omega, fun x3 ex => ⟨Nc c1 - (k + 1), by omega, by rw [eg, ex]; exact fin _ (by omega)⟩⟩⟩
        · rw [if_neg he]
          rw [if_neg he] at hs
          refine ⟨fun _ => ⟨by rw [okA_of kt], y + 9, kr9, by unfold inR; omega, by unfold inR; omega, fun hle => ?_, fun hgt => ?_⟩, fun h => absurd rfl h⟩
          · exact ⟨by rw [okW_of ka9]; omega, fun g3 eg => ⟨by unfold inR; omega, fun x3 ex => ⟨Nc c1 - (k + 1), by omega, by rw [eg, ex]; exact fin _ (by omega)⟩⟩⟩
          · exact absurd (by omega) hgt
      · simp only [t2']
        refine d_areEqual V2 hi9 hj9 ?_
        by_cases he : eqB c0 c1 i j = true
        · rw [if_pos he]
          rw [if_pos he] at hs
          have hm := lgT_max hi9 hj9 he
          refine ⟨fun h => absurd h (by omega), fun _ => ⟨by rw [okA_of kt], y + 9, kr9, by unfold inR; omega, by unfold inR; omega, by unfold inR; omega, by rw [okI_of ka9]; omega, ?_⟩⟩
          rw [t1']
          refine ⟨by unfold inR; omega, by rw [okA_of kt], y + 9, kr9, by unfold inR; omega, by unfold inR; omega, fun hle => ?_, fun hgt => ?_⟩
          · exact ⟨by rw [okW_of ka9]; omega, fun g3 eg => ⟨by unfold inR; omega, fun x3 ex => ⟨Nc c1 - (k + 1), by omega, by rw [eg, ex]; exact fin _ (by omega)⟩⟩⟩
          · exact ⟨by rw [okW_of ka9]; omega, fun g3 eg => ⟨by unfold inR; omega, fun x3 ex => ⟨Nc c1 - (k + 1), by omega, by rw [eg, ex]; exact fin _ (by omega)⟩⟩⟩
        · rw [if_neg he]
          rw [if_neg he] at hs
          refine ⟨fun _ => ⟨by rw [okA_of kt], y + 9, kr9, by unfold inR; omega, by unfold inR; omega, fun hle => ?_, fun hgt => ?_⟩, fun h => absurd rfl h⟩
          · exact ⟨by rw [okW_of ka9]; omega, fun g3 eg => ⟨by unfold inR; omega, fun x3 ex => ⟨Nc c1 - (k + 1), by omega, by rw [eg, ex]; exact fin _ (by omega)⟩⟩⟩
          · exact absurd (by omega) hgt
