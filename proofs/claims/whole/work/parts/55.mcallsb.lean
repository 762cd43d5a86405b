/-! THE PURE LAYER, 39: the model's put and load -/
theorem cOf_z {D : DT} {t : Int} {p : Nat} (ht : t = 0 ∨ t = 1) (hp : p < 80) : zA D.1.1 D.1.2.1 D.1.2.2 (80 * t.toNat + p) = cOf D t p := by
  unfold cOf
  rcases ht with rfl | rfl
  · show zA _ _ _ (80 * 0 + p) = _
    rw [if_pos rfl]; unfold zA; rw [if_pos (by omega), show 80 * 0 + p = p by omega]
  · show zA _ _ _ (80 * 1 + p) = _
    rw [if_neg (by omega)]; unfold zA; rw [if_neg (by omega), if_pos (by omega), show 80 * 1 + p - 80 = p by omega]
theorem dTxt_z {D : DT} {t : Int} {p : Nat} {v : Int} (ht : t = 0 ∨ t = 1) (hp : p < 80) : ∀ k, k < 168 → zA (dTxt D t (un (cOf D t) p v)).1 (dTxt D t (un (cOf D t) p v)).2.1 (dTxt D t (un (cOf D t) p v)).2.2 k = un (zA D.1.1 D.1.2.1 D.1.2.2) (80 * t.toNat + p) v k := by
  rcases ht with rfl | rfl
  · rw [show 80 * (0 : Int).toNat + p = p by show 80 * 0 + p = p; omega]
    exact zA_0 hp
  · rw [show 80 * (1 : Int).toNat + p = 80 + p by show 80 * 1 + p = 80 + p; omega]
    exact zA_1 hp
theorem d_put {zz : Nat → Nat} {y : Nat} {t r c v : Int} {h : AH} {Q : Int → AH → Prop} {D : DT} (R : MRl h y D)
    (q : (t = 0 ∨ t = 1) → ((0 ≤ r ∧ r < 5) ∧ 0 ≤ c ∧ c < 16) → (isL v = true ∨ v = 32) → ¬ (v ≠ 32 ∧ cOf D t (16 * r + c).toNat = 32 ∧ ¬ Nc (cOf D t) < 40) → ∀ h' : AH, Ga h h' y (y + 17) → MRl h' y (dPut D t (16 * r + c).toNat v) → hfI h' y 0 = 0 → Q (cOf D t (16 * r + c).toNat) h')
    (q1 : ¬ ((t = 0 ∨ t = 1) ∧ (0 ≤ r ∧ r < 5) ∧ 0 ≤ c ∧ c < 16) → ∀ h' : AH, Ga h h' y (y + 17) → MRl h' y D → hfI h' y 0 = 1 → Q 0 h')
    (q2 : ((t = 0 ∨ t = 1) ∧ (0 ≤ r ∧ r < 5) ∧ 0 ≤ c ∧ c < 16) → ¬ (isL v = true ∨ v = 32) → ∀ h' : AH, Ga h h' y (y + 17) → MRl h' y D → hfI h' y 0 = 2 → Q 0 h')
    (q3 : ((t = 0 ∨ t = 1) ∧ (0 ≤ r ∧ r < 5) ∧ 0 ≤ c ∧ c < 16) → (isL v = true ∨ v = 32) → (v ≠ 32 ∧ cOf D t (16 * r + c).toNat = 32 ∧ ¬ Nc (cOf D t) < 40) → ∀ h' : AH, Ga h h' y (y + 17) → MRl h' y D → hfI h' y 0 = 3 → Q 0 h') : w_X7_put zz y t r c v h Q := by
  have R1 : ∀ u : Int, MRl (sfI h y 0 u) y D := fun u => R.th
  unfold w_X7_put
  refine d_isText (jn_a1 (if (t = 0 ∨ t = 1) ∧ (0 ≤ r ∧ r < 5) ∧ 0 ≤ c ∧ c < 16 then 1 else 0) h (fun f hf => ?_) (jn_a1 (if (t = 0 ∨ t = 1) ∧ (0 ≤ r ∧ r < 5) ∧ 0 ≤ c ∧ c < 16 then (if isL v = true ∨ v = 32 then 0 else 2) else 1) h (fun f hf => ?_) ⟨by rw [okP_of R.1.1]; exact ⟨rfl, R.1.2.1⟩, fun g eg => ?_⟩))
  · rw [jn_def]
    by_cases ht : t = 0 ∨ t = 1
    · rw [if_pos ht]
      refine ⟨fun h => absurd h (by omega), fun _ => d_isCell ?_⟩
      by_cases hc : (0 ≤ r ∧ r < 5) ∧ 0 ≤ c ∧ c < 16
      · rw [if_pos hc]
        rw [if_pos ⟨ht, hc⟩] at hf
        exact ⟨fun h => absurd h (by omega), fun _ => hf⟩
      · rw [if_neg hc]
        rw [if_neg (fun h => hc h.2)] at hf
        exact ⟨fun _ => hf, fun h => absurd rfl h⟩
    · rw [if_neg ht]
      rw [if_neg (fun h => ht h.1)] at hf
      exact ⟨fun _ => hf, fun h => absurd rfl h⟩
  · by_cases hh : (t = 0 ∨ t = 1) ∧ (0 ≤ r ∧ r < 5) ∧ 0 ≤ c ∧ c < 16
    · rw [if_pos hh] at hf ⊢
      refine ⟨fun _ => d_isLetter ?_, fun h => absurd h (by omega)⟩
      rw [jn_def]
      by_cases hl : isL v = true
      · rw [if_pos hl]
        rw [if_pos (.inl hl)] at hf
        exact ⟨fun _ => hf, fun h => absurd h (by omega)⟩
      · rw [if_neg hl]
        refine ⟨fun h => absurd rfl h, fun _ => ⟨fun e => ?_, fun ne => ?_⟩⟩
        · rw [if_pos (.inr e)] at hf; exact hf
        · rw [if_neg (fun h => by rcases h with h | h
                                  · exact hl h
                                  · exact ne h)] at hf
          exact hf
    · rw [if_neg hh] at hf ⊢
      exact ⟨fun h => absurd rfl h, fun _ => hf⟩
  · by_cases hh : (t = 0 ∨ t = 1) ∧ (0 ≤ r ∧ r < 5) ∧ 0 ≤ c ∧ c < 16
    · rw [if_pos hh] at eg
      by_cases hl : isL v = true ∨ v = 32
      · rw [if_pos hl] at eg
        have Rg : MRl g y D := by rw [eg]; exact R.th
        have eg0 : hfI g y 0 = 0 := by rw [eg]; exact th_at
        have Gg : Ga h g y (y + 17) := by rw [eg]; exact Ga.th
        clear eg
        have K := Rg.1
        have ht := hh.1
        have hv : v = 32 ∨ 97 ≤ v ∧ v ≤ 122 := by
          rcases hl with hl | hl
          · exact .inr (isL_i.mp hl)
          · exact .inl hl
        obtain ⟨p, hp⟩ : ∃ p : Nat, p = (16 * r + c).toNat := ⟨_, rfl⟩
        have hp2 : (p : Int) = 16 * r + c := by omega
        have hp8 : p < 80 := by omega
        rw [← hp] at q q3
        have h40 := (R.2.2.1.tx (D := D) (t := t)).n
        have ht2 : (t.toNat : Int) = t := by omega
        refine ⟨by rw [okA_of K.1], ?_⟩
        rw [eg0]
        refine ⟨fun _ => ⟨by unfold inR; omega, by unfold inR; omega, by unfold inR; omega, by unfold inR; omega, fun x ex => ?_⟩, fun h => absurd (Int.le_refl 0) h⟩
        have ex : x = ((80 * t.toNat + p : Nat) : Int) := by omega
        subst ex
        refine jn_a1 (if v ≠ 32 ∧ cOf D t p = 32 ∧ ¬ Nc (cOf D t) < 40 then 3 else 0) g (fun f hf => ?_) ⟨by rw [okP_of K.1]; exact ⟨rfl, K.2.1⟩, fun g2 eg2 => ?_⟩
        · have no : ¬ (v ≠ 32 ∧ cOf D t p = 32 ∧ ¬ Nc (cOf D t) < 40) → f 0 g := fun hn => by rw [if_neg hn] at hf; exact hf
          rw [jn_def]
          refine ⟨fun e => no (fun h => h.1 e), fun ne => ⟨by rw [okA_of K.1], y + 1, K.2.2.2.1, by rw [okI_of K.2.2.1.1]; omega, ?_⟩⟩
          rw [Rg.2.1 _ (by omega), cOf_z ht hp8]
          refine ⟨fun ne2 => no (fun h => ne2 h.2.1), fun e2 => ⟨by rw [okA_of K.1], d_lettersOf K ht (Rg.2.1.of ht) ⟨fun n4 => no (fun h => h.2.2 (by omega)), fun e4 => ?_⟩⟩⟩
          rw [if_pos ⟨ne, e2, by omega⟩] at hf; exact hf
        · by_cases hb : v ≠ 32 ∧ cOf D t p = 32 ∧ ¬ Nc (cOf D t) < 40
          · rw [if_pos hb] at eg2
            have R2 : MRl g2 y D := by rw [eg2]; exact Rg.th
            have e20 : hfI g2 y 0 = 3 := by rw [eg2]; exact th_at
            refine ⟨by rw [okA_of R2.1.1], ?_⟩
            rw [jn_def, e20]
            refine ⟨fun h => absurd h (by omega), fun _ => q3 hh hl hb g2 (Gg.trans (by rw [eg2]; exact Ga.th)) R2 e20⟩
          · rw [if_neg hb] at eg2
            have R2 : MRl g2 y D := by rw [eg2]; exact Rg.th
            have e20 : hfI g2 y 0 = 0 := by rw [eg2]; exact th_at
            refine ⟨by rw [okA_of R2.1.1], ?_⟩
            rw [jn_def, e20]
            refine ⟨fun _ => ⟨by rw [okA_of R2.1.1], d_replaced (D' := dTxt D t (un (cOf D t) p v)) R2 (by omega) (dTxt_z ht hp8) (R.2.2.1.put (GC_un (R.2.2.1.tx (t := t)) hp8 hv hb)) (fun g3 G3 R3 e3 => ?_)⟩, fun h => absurd (Int.le_refl 0) h⟩
            rw [cOf_z ht hp8]
            exact q ht hh.2 hl hb g3 (Gg.trans (Ga.trans (by rw [eg2]; exact Ga.th) G3)) R3 (by rw [e3]; exact e20)
      · rw [if_neg hl] at eg
        subst eg
        refine ⟨by rw [okA_of (R1 2).1.1], ?_⟩
        rw [th_at]
        exact ⟨fun h => absurd h (by omega), fun _ => q2 hh hl _ Ga.th (R1 2) th_at⟩
    · rw [if_neg hh] at eg
      subst eg
      refine ⟨by rw [okA_of (R1 1).1.1], ?_⟩
      rw [th_at]
      exact ⟨fun h => absurd h (by omega), fun _ => q1 hh _ Ga.th (R1 1) th_at⟩
set_option maxHeartbeats 1000000 in
theorem d_load {zz : Nat → Nat} {y : Nat} {t : Int} {h : AH} {Q : Int → AH → Prop} {D : DT} (R : MRl h y D)
    (q : (t = 0 ∨ t = 1) → rE D.2.2.2.1 D.2.2.2.2 = D.2.2.2.2 → ∀ h' : AH, Ga h h' y (y + 17) → MRl h' y (dLoad D t) → hfI h' y 0 = 0 → Q (Nc (rR D.2.2.2.1 D.2.2.2.2).2.2.2 : Int) h')
    (q1 : ¬ (t = 0 ∨ t = 1) → ∀ h' : AH, Ga h h' y (y + 17) → MRl h' y D → hfI h' y 0 = 1 → Q 0 h')
    (q2 : (t = 0 ∨ t = 1) → ¬ rE D.2.2.2.1 D.2.2.2.2 = D.2.2.2.2 → ∀ h' : AH, Ga h h' y (y + 17) → MRl h' y D → hfI h' y 0 = 2 → Q 0 h') : w_X7_load zz y t h Q := by
  have R1 : ∀ u : Int, MRl (sfI h y 0 u) y D := fun u => R.th
  unfold w_X7_load
  refine d_isText ?_
  rw [jn_def]
  by_cases ht : t = 0 ∨ t = 1
  · rw [if_pos ht]
    refine ⟨fun _ => ⟨by rw [okA_of R.1.1], d_readText R.1 R.2.2.2.2.2.2.2.1 R.2.2.2.2.2.2.2.2.1 R.2.2.2.2.2.2.2.2.2 (fun g F C => ?_)⟩, fun h => absurd h (by omega)⟩
    have Rg := R.rd F
    have re := (rE_ok (buf := D.2.2.2.1) (len := D.2.2.2.2)).1
    have rk := (rE_ok (buf := D.2.2.2.1) (len := D.2.2.2.2)).2
    refine ⟨by rw [okA_of Rg.1.1], ?_⟩
    rw [Rg.2.2.2.2.2.2.2.1]
    refine ⟨fun hle => ?_, fun hgt => ⟨by rw [okP_of Rg.1.1]; exact ⟨rfl, Rg.1.2.1⟩, fun g2 eg2 => ?_⟩⟩
    · have ee : rE D.2.2.2.1 D.2.2.2.2 = D.2.2.2.2 := by omega
      rw [ee] at C rk
      refine ⟨by rw [okP_of Rg.1.1]; exact ⟨rfl, Rg.1.2.1⟩, fun g2 eg2 => ?_⟩
      have R2 : MRl g2 y D := by rw [eg2]; exact Rg.th
      have e20 : hfI g2 y 0 = 0 := by rw [eg2]; exact th_at
      have G2 : Ga h g2 y (y + 17) := (F.ga (by omega) (by omega)).trans (by rw [eg2]; exact Ga.th)
      have C2 : ∀ c : Nat, c < 80 → haI g2 (y + 16) c = (rR D.2.2.2.1 D.2.2.2.2).2.2.2 c := by rw [eg2]; exact C
      refine ⟨by rw [okA_of R2.1.1], ?_⟩
      rw [e20]
      refine ⟨fun _ => ⟨by rw [okA_of R2.1.1], d_save R2 (fun g3 G3 R3 e3 e316 => ?_)⟩, fun h => absurd (Int.le_refl 0) h⟩
      have Z3 := R3.zr
      have K3 := R3.1
      have C3 : ∀ c : Nat, c < 80 → haI g3 (y + 16) c = (rR D.2.2.2.1 D.2.2.2.2).2.2.2 c := by rw [e316]; exact C2
      have ht2 : (t.toNat : Int) = t := by omega
      obtain ⟨I, hI⟩ : ∃ I : Nat → Int → AH → Prop, ∀ m x h', I m x h' ↔ ∃ k : Nat, k ≤ 80 ∧ m = 80 - k ∧ x = (k : Int) ∧ Fr g3 h' (y + 1) (y + 2) ∧ ∀ j : Nat, j < 168 → haI h' (y + 1) j = if 80 * t.toNat ≤ j ∧ j < 80 * t.toNat + k then (rR D.2.2.2.1 D.2.2.2.2).2.2.2 (j - 80 * t.toNat) else zA D.1.1 D.1.2.1 D.1.2.2 j := ⟨_, fun _ _ _ => Iff.rfl⟩
      refine ⟨I, ⟨80, (hI _ _ _).mpr ⟨0, by omega, rfl, rfl, Fr.refl _ _ _, fun j hj => by rw [if_neg (by omega)]; exact Z3 j hj⟩⟩, ?_⟩
      intro m x h' hi9
      obtain ⟨k, hk, rfl, rfl, F4, Dj⟩ := (hI _ _ _).mp hi9
      have K4 := K3.fr F4
      refine ⟨fun hc => ⟨by rw [okP_of K4.1]; exact ⟨rfl, K4.2.1⟩, fun g5 eg5 => ?_⟩, fun hc => ⟨by rw [okA_of K4.1], y + 1, K4.2.2.2.1, by unfold inR; omega, by unfold inR; omega, by rw [okA_of K4.1], y + 16, K4.2.2.2.2.2.2.2.2.2.2.2.2.2.2.2.2.2.2, by rw [okI_of K4.2.2.1.2.2.2.2.2.2.2.2.2.2.2.2.2.2.2]; omega, by rw [okW_of K4.2.2.1.1]; have := K4.2.1; omega, ?_⟩⟩
      · obtain rfl : k = 80 := by omega
        have F5 : Fr h' g5 y (y + 1) := by rw [eg5]; exact Fr.sf (by omega) (by omega)
        have Gc := GC_R (buf := D.2.2.2.1) (k := D.2.2.2.2) rk
        have Z4 : ZR h' y (dTxt D t (rR D.2.2.2.1 D.2.2.2.2).2.2.2).1 (dTxt D t (rR D.2.2.2.1 D.2.2.2.2).2.2.2).2.1 (dTxt D t (rR D.2.2.2.1 D.2.2.2.2).2.2.2).2.2 := by
          intro j hj
          rw [Dj j hj]
          unfold dTxt zA
          rcases ht with rfl | rfl
          · rw [if_pos rfl, show (0 : Int).toNat = 0 from rfl]
            by_cases h1 : j < 80
            · rw [if_pos (by omega), if_pos h1, show j - 80 * 0 = j by omega]
            · rw [if_neg (by omega), if_neg h1, if_neg h1]
          · have e10 : ¬ (1 : Int) = 0 := by omega
            rw [if_neg e10, show (1 : Int).toNat = 1 from rfl]
            by_cases h1 : j < 80
            · rw [if_neg (by omega), if_pos h1, if_pos h1]
            · rw [if_neg h1, if_neg h1]
              by_cases h2 : j < 160
              · rw [if_pos (by omega), if_pos h2]
              · rw [if_neg (by omega), if_neg h2, if_neg h2]
        have R4 := R3.z (D' := dTxt D t (rR D.2.2.2.1 D.2.2.2.2).2.2.2) F4 Z4 (R.2.2.1.put Gc)
        have R5 : MRl g5 y (dLoad D t) := by
          obtain ⟨a1, a2, a3, a4, a5, a6, a7, a8, a9, a10⟩ := R4
          refine ⟨a1.fr F5, fun j hj => by rw [F5.ai (by omega)]; exact a2 j hj, a3, ?_, a5, fun i j hi hj => by rw [F5.ai (by omega)]; exact a6 i j hi hj, a7, ?_, by show 0 ≤ 60; omega, fun j hj => absurd hj (Nat.not_lt_zero j)⟩
          · rw [eg5, hfI_sfI, if_pos rfl, if_neg (by omega)]; exact a4
          · rw [eg5, hfI_sfI, if_pos rfl, if_pos rfl]; rfl
        refine ⟨by rw [okA_of R5.1.1], d_lettersOf R5.1 ht (c := (rR D.2.2.2.1 D.2.2.2.2).2.2.2) (fun j hj => ?_) ?_⟩
        · have a := Dj (80 * t.toNat + j) (by omega)
          rw [if_pos (by omega), show 80 * t.toNat + j - 80 * t.toNat = j by omega, show ((80 * t.toNat + j : Nat) : Int) = (80 : Int) * t + (j : Int) by omega] at a
          rw [F5.ai (by omega)]; exact a
        · refine q ht ee g5 (G2.trans (G3.trans ((F4.ga (by omega) (by omega)).trans (F5.ga (by omega) (by omega))))) R5 ?_
          rw [eg5, hfI_sfI, if_pos rfl, if_neg (by omega), F4.fi (by omega), e3]; exact e20
      · have ck : haI h' (y + 16) (k : Int) = (rR D.2.2.2.1 D.2.2.2.2).2.2.2 k := by rw [F4.ai (by omega)]; exact C3 k (by omega)
        rw [ck]
        intro g5 eg5
        refine ⟨by unfold inR; omega, fun x4 e4 => ⟨80 - (k + 1), by omega, (hI _ _ _).mpr ⟨k + 1, by omega, rfl, by omega, F4.trans (by rw [eg5]; exact Fr.sa (by omega) (by omega)), fun j hj => ?_⟩⟩⟩
        rw [eg5, haI_saI, if_pos rfl, u1_apply]
        by_cases e : j = 80 * t.toNat + k
        · rw [if_pos (by omega), if_pos (by omega), e, show 80 * t.toNat + k - 80 * t.toNat = k by omega]
        · rw [if_neg (by omega), Dj j hj]
          by_cases h2 : 80 * t.toNat ≤ j ∧ j < 80 * t.toNat + k
          · rw [if_pos h2, if_pos (by omega)]
          · rw [if_neg h2, if_neg (by omega)]
    · subst eg2
      have R2 : MRl (sfI g y 0 2) y D := Rg.th
      refine ⟨by rw [okA_of R2.1.1], ?_⟩
      rw [th_at]
      exact ⟨fun h => absurd h (by omega), fun _ => q2 ht (by omega) _ ((F.ga (by omega) (by omega)).trans Ga.th) R2 th_at⟩
  · rw [if_neg ht]
    refine ⟨fun h => absurd rfl h, fun _ => ⟨by rw [okP_of R.1.1]; exact ⟨rfl, R.1.2.1⟩, fun g eg => ?_⟩⟩
    subst eg
    refine ⟨by rw [okA_of (R1 1).1.1], ?_⟩
    rw [th_at]
    exact ⟨fun h => absurd h (by omega), fun _ => q1 ht _ Ga.th (R1 1) th_at⟩
