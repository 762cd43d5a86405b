/-! THE PURE LAYER, 38: the model's calls that change something -/
theorem MRl.z {g g2 : AH} {y : Nat} {D : DT} {D' : D3} (R : MRl g y D) (F : Fr g g2 (y + 1) (y + 2)) (Z : ZR g2 y D'.1 D'.2.1 D'.2.2) (G : GD D') : MRl g2 y (D', D.2) := by
  obtain ⟨K, -, -, r4, r5, r6, r7, r8, r9, r10⟩ := R
  exact ⟨K.fr F, Z, G, by rw [F.fi (by omega)]; exact r4, r5, fun i j hi hj => by rw [F.ai (by omega)]; exact r6 i j hi hj, r7, by rw [F.fi (by omega)]; exact r8, r9, fun j hj => by rw [F.ai (by omega)]; exact r10 j hj⟩
theorem MRl.zr {g : AH} {y : Nat} {D : DT} (R : MRl g y (dsv D)) : ZR g y D.1.1 D.1.2.1 D.1.2.2 := by have := R.2.1; rw [dsv_1] at this; exact this
theorem ZR.of {h : AH} {y : Nat} {D : DT} {t : Int} (Z : ZR h y D.1.1 D.1.2.1 D.1.2.2) (ht : t = 0 ∨ t = 1) : ∀ k : Nat, k < 80 → haI h (y + 1) ((80 : Int) * t + (k : Int)) = cOf D t k := by
  intro k hk
  rcases ht with rfl | rfl
  · rw [show (80 : Int) * 0 + (k : Int) = (k : Int) by omega]; exact Z.t0 hk
  · rw [show (80 : Int) * 1 + (k : Int) = (80 : Int) + (k : Int) by omega]; exact Z.t1 hk
theorem d_begin {zz : Nat → Nat} {y : Nat} {h : AH} {Q : Int → AH → Prop} {D : DT} (R : MRl h y D) (q : ∀ h' : AH, Ga h h' y (y + 17) → MRl h' y (dBegin D) → hfI h' y 0 = 0 → Q ((Nc D.1.1 : Int) + (Nc D.1.2.1 : Int)) h') : w_X7_begin zz y h Q := by
  have h0 := R.2.2.1.1.n
  have h1 := R.2.2.1.2.1.n
  unfold w_X7_begin
  refine ⟨by rw [okP_of R.1.1]; exact ⟨rfl, R.1.2.1⟩, ?_⟩
  intro g eg
  have Rg : MRl g y D := by rw [eg]; exact R.th
  have eg0 : hfI g y 0 = 0 := by rw [eg]; exact th_at
  have Gg : Ga h g y (y + 17) := by rw [eg]; exact Ga.th
  refine ⟨by rw [okA_of Rg.1.1], d_save Rg (fun g1 G1 R1 e1 _ => ?_)⟩
  have Z1 := R1.zr
  refine ⟨by rw [okA_of R1.1.1], d_lettersOf R1.1 (.inl rfl) (Z1.of (.inl rfl)) ⟨by rw [okA_of R1.1.1], d_lettersOf R1.1 (.inr rfl) (Z1.of (.inr rfl)) ?_⟩⟩
  show inR ((Nc D.1.1 : Int) + (Nc D.1.2.1 : Int)) ∧ _
  refine ⟨by unfold inR; omega, ?_⟩
  intro x ex
  subst ex
  refine ⟨by rw [okA_of R1.1.1], d_fresh R1.1 (fun g2 F2 Z2 => ?_)⟩
  exact q g2 (Gg.trans (G1.trans (F2.ga (by omega) (by omega)))) (R1.z (D' := (fun _ => 32, fun _ => 32, st0)) F2 Z2 GD_0) (by rw [F2.fi (by omega), e1]; exact eg0)
theorem d_set {zz : Nat → Nat} {y : Nat} {s v : Int} {h : AH} {Q : Int → AH → Prop} {D : DT} (R : MRl h y D)
    (q : (0 ≤ s ∧ s < 8) → (lowV s ≤ v ∧ v ≤ topV s) → ∀ h' : AH, Ga h h' y (y + 17) → MRl h' y (dSet D s v) → hfI h' y 0 = 0 → Q (D.1.2.2 s.toNat) h')
    (q1 : ¬ (0 ≤ s ∧ s < 8) → ∀ h' : AH, Ga h h' y (y + 17) → MRl h' y D → hfI h' y 0 = 1 → Q 0 h')
    (q2 : (0 ≤ s ∧ s < 8) → ¬ (lowV s ≤ v ∧ v ≤ topV s) → ∀ h' : AH, Ga h h' y (y + 17) → MRl h' y D → hfI h' y 0 = 2 → Q 0 h') : w_X7_set zz y s v h Q := by
  unfold w_X7_set
  refine d_isSetting ?_
  rw [jn_def]
  have R1 : ∀ t : Int, MRl (sfI h y 0 t) y D := fun t => R.th
  have thr : ∀ t : Int, ¬ t ≤ 0 → Q 0 (sfI h y 0 t) → (okP h y 7 ∧ ∀ h25 : AH, h25 = sfI h y 0 t → okA h25 y 7 ∧ jn (fun (t0_49 : Int) (h_49 : AH) => Q t0_49 h_49) (fun k_49 : Int → AH → Prop => (((hfI h25 y 0) ≤ 0) → inR ((160 : Int) + s) ∧ okA h25 y 7 ∧ w_X7_replaced zz y ((160 : Int) + s) v h25 (fun (r46 : Int) (h46 : AH) => k_49 r46 h46)) ∧ ((¬ ((hfI h25 y 0) ≤ 0)) → k_49 (0 : Int) h25))) := by
    intro t ht hq
    refine ⟨by rw [okP_of R.1.1]; exact ⟨rfl, R.1.2.1⟩, fun g eg => ?_⟩
    subst eg
    refine ⟨by rw [okA_of (R1 t).1.1], ?_⟩
    rw [jn_def, th_at]
    exact ⟨fun h => absurd h ht, fun _ => hq⟩
  by_cases hs : 0 ≤ s ∧ s < 8
  · rw [if_pos hs]
    refine ⟨fun _ => d_isValue hs ?_, fun h => absurd h (by omega)⟩
    by_cases hv : lowV s ≤ v ∧ v ≤ topV s
    · rw [if_pos hv]
      refine ⟨fun h => absurd h (by omega), fun _ => ⟨by rw [okP_of R.1.1]; exact ⟨rfl, R.1.2.1⟩, fun g eg => ?_⟩⟩
      subst eg
      refine ⟨by rw [okA_of (R1 0).1.1], ?_⟩
      rw [jn_def, th_at]
      refine ⟨fun _ => ⟨by unfold inR; omega, by rw [okA_of (R1 0).1.1], ?_⟩, fun h => absurd (Int.le_refl 0) h⟩
      obtain ⟨k, hk⟩ : ∃ k : Nat, s = (k : Int) := ⟨s.toNat, by omega⟩
      subst hk
      have e : (160 : Int) + (k : Int) = ((160 + k : Nat) : Int) := by omega
      rw [e]
      refine d_replaced (D' := (D.1.1, D.1.2.1, un D.1.2.2 k v)) (R1 0) (by omega) (zA_s (v := v)) ⟨R.2.2.1.1, R.2.2.1.2.1, GS_un R.2.2.1.2.2 (by omega) hv⟩ (fun g2 G2 R2 e2 => ?_)
      have := q hs hv g2 (Ga.th.trans G2) R2 (by rw [e2]; exact th_at)
      have ez : zA D.1.1 D.1.2.1 D.1.2.2 (160 + k) = D.1.2.2 k := by
        unfold zA; rw [if_neg (by omega), if_neg (by omega), show 160 + k - 160 = k by omega]
      rw [ez]; exact this
    · rw [if_neg hv]
      exact ⟨fun _ => thr 2 (by omega) (q2 hs hv _ Ga.th (R1 2) th_at), fun h => absurd rfl h⟩
  · rw [if_neg hs]
    exact ⟨fun h => absurd rfl h, fun _ => thr 1 (by omega) (q1 hs _ Ga.th (R1 1) th_at)⟩
theorem d_setting {zz : Nat → Nat} {y : Nat} {s : Int} {h : AH} {Q : Int → AH → Prop} {D : DT} (R : MRl h y D)
    (q : (0 ≤ s ∧ s < 8) → ∀ h' : AH, Ga h h' y (y + 17) → MRl h' y D → hfI h' y 0 = 0 → Q (D.1.2.2 s.toNat) h')
    (q1 : ¬ (0 ≤ s ∧ s < 8) → ∀ h' : AH, Ga h h' y (y + 17) → MRl h' y D → hfI h' y 0 = 1 → Q 0 h') : w_X7_setting zz y s h Q := by
  unfold w_X7_setting
  refine d_isSetting ?_
  rw [jn_def]
  have R1 : ∀ t : Int, MRl (sfI h y 0 t) y D := fun t => R.th
  by_cases hs : 0 ≤ s ∧ s < 8
  · rw [if_pos hs]
    refine ⟨fun h => absurd h (by omega), fun _ => ⟨by rw [okP_of R.1.1]; exact ⟨rfl, R.1.2.1⟩, fun g eg => ?_⟩⟩
    subst eg
    refine ⟨by rw [okA_of (R1 0).1.1], ?_⟩
    rw [jn_def, th_at]
    exact ⟨fun _ => ⟨by rw [okA_of (R1 0).1.1], d_of (R1 0).1 (R1 0).2.1 hs (q hs _ Ga.th (R1 0) th_at)⟩, fun h => absurd (Int.le_refl 0) h⟩
  · rw [if_neg hs]
    refine ⟨fun _ => ⟨by rw [okP_of R.1.1]; exact ⟨rfl, R.1.2.1⟩, fun g eg => ?_⟩, fun h => absurd rfl h⟩
    subst eg
    refine ⟨by rw [okA_of (R1 1).1.1], ?_⟩
    rw [jn_def, th_at]
    exact ⟨fun h => absurd h (by omega), fun _ => q1 hs _ Ga.th (R1 1) th_at⟩
theorem d_undo {zz : Nat → Nat} {y : Nat} {h : AH} {Q : Int → AH → Prop} {D : DT} (R : MRl h y D)
    (q : 0 < D.2.2.1 → ∀ h' : AH, Ga h h' y (y + 17) → MRl h' y (dUndo D) → hfI h' y 0 = 0 → Q ((D.2.2.1 - 1 : Nat) : Int) h')
    (q1 : ¬ 0 < D.2.2.1 → ∀ h' : AH, Ga h h' y (y + 17) → MRl h' y D → hfI h' y 0 = 1 → Q 0 h') : w_X7_undo zz y h Q := by
  have R1 : ∀ t : Int, MRl (sfI h y 0 t) y D := fun t => R.th
  unfold w_X7_undo
  refine ⟨by rw [okA_of R.1.1], ?_⟩
  rw [jn_def, R.2.2.2.1]
  refine ⟨fun hle => ⟨by rw [okP_of R.1.1]; exact ⟨rfl, R.1.2.1⟩, fun g eg => ?_⟩, fun hgt => ⟨by rw [okP_of R.1.1]; exact ⟨rfl, R.1.2.1⟩, fun g eg => ?_⟩⟩
  · subst eg
    refine ⟨by rw [okA_of (R1 1).1.1], ?_⟩
    rw [th_at]
    exact ⟨fun h => absurd h (by omega), fun _ => q1 (by omega) _ Ga.th (R1 1) th_at⟩
  · have Rg : MRl g y D := by rw [eg]; exact R.th
    have eg0 : hfI g y 0 = 0 := by rw [eg]; exact th_at
    have Gg : Ga h g y (y + 17) := by rw [eg]; exact Ga.th
    obtain ⟨K, Z, G, n2, n6, S, GSv, b4, b60, B⟩ := Rg
    refine ⟨by rw [okA_of K.1], ?_⟩
    rw [eg0, n2]
    refine ⟨fun _ => ⟨by rw [okA_of K.1], by unfold inR; omega, by rw [okP_of K.1]; exact ⟨rfl, K.2.1⟩, fun g1 eg1 => ?_⟩, fun h => absurd (Int.le_refl 0) h⟩
    obtain ⟨n, hn⟩ : ∃ n, n = D.2.2.1 - 1 := ⟨_, rfl⟩
    have F1 : Fr g g1 y (y + 1) := by rw [eg1]; exact Fr.sf (by omega) (by omega)
    have f2 : hfI g1 y 2 = (n : Int) := by rw [eg1, hfI_sfI, if_pos rfl, if_pos rfl]; omega
    have f0 : hfI g1 y 0 = 0 := by rw [eg1, hfI_sfI, if_pos rfl, if_neg (by omega)]; exact eg0
    have f4 : hfI g1 y 4 = (D.2.2.2.2 : Int) := by rw [eg1, hfI_sfI, if_pos rfl, if_neg (by omega)]; exact b4
    obtain ⟨I, hI⟩ : ∃ I : Nat → Int → AH → Prop, ∀ m x h', I m x h' ↔ ∃ k : Nat, k ≤ 168 ∧ m = 168 - k ∧ x = (k : Int) ∧ Fr g1 h' (y + 1) (y + 2) ∧ ∀ j : Nat, j < k → haI h' (y + 1) j = sdA D n j := ⟨_, fun _ _ _ => Iff.rfl⟩
    refine ⟨I, ⟨168, (hI _ _ _).mpr ⟨0, by omega, rfl, rfl, Fr.refl _ _ _, fun j hj => by omega⟩⟩, ?_⟩
    intro m x h' hi9
    obtain ⟨k, hk, rfl, rfl, F, Dj⟩ := (hI _ _ _).mp hi9
    have K2 := (K.fr F1).fr F
    have f2' : hfI h' y 2 = (n : Int) := by rw [F.fi (by omega)]; exact f2
    rw [f2']
    refine ⟨fun hc => ⟨by rw [okA_of K2.1], ?_⟩, fun hc => ⟨by rw [okA_of K2.1], y + 1, K2.2.2.2.1, by rw [okA_of K2.1], y + 2, K2.2.2.2.2.1, by rw [okA_of K2.1], by unfold inR; omega, by unfold inR; omega, by rw [okI_of K2.2.2.1.2.1]; omega, by rw [okW_of K2.2.2.1.1]; have := K2.2.1; omega, ?_⟩⟩
    · obtain rfl : k = 168 := by omega
      have qq := q (by omega) h' (Gg.trans ((F1.ga (by omega) (by omega)).trans (F.ga (by omega) (by omega)))) ?_ (by rw [F.fi (by omega)]; exact f0)
      · rw [← hn] at qq; exact qq
      · refine ⟨K2, fun j hj => ?_, GSv _ (by omega), ?_, by show D.2.2.1 - 1 ≤ 6; omega, fun i j hi hj => ?_, fun i hi => GSv i (by have hi : i < D.2.2.1 - 1 := hi; omega), ?_, b60, fun j hj => ?_⟩
        · show _ = zA (D.2.1 (D.2.2.1 - 1)).1 (D.2.1 (D.2.2.1 - 1)).2.1 (D.2.1 (D.2.2.1 - 1)).2.2 j
          rw [← hn]; exact Dj j hj
        · show _ = ((D.2.2.1 - 1 : Nat) : Int); rw [f2', hn]
        · have hi : i < D.2.2.1 - 1 := hi
          rw [F.ai (by omega), F1.ai (by omega)]; exact S i j (by omega) hj
        · rw [F.fi (by omega)]; exact f4
        · rw [F.ai (by omega), F1.ai (by omega)]; exact B j hj
    · have sk : haI h' (y + 2) ((168 : Int) * (n : Int) + (k : Int)) = sdA D n k := by rw [F.ai (by omega), F1.ai (by omega)]; exact S n k (by omega) (by omega)
      rw [sk]
      intro g2 eg2
      refine ⟨by unfold inR; omega, fun x3 e3 => ⟨168 - (k + 1), by omega, (hI _ _ _).mpr ⟨k + 1, by omega, rfl, by omega, F.trans (by rw [eg2]; exact Fr.sa (by omega) (by omega)), fun j hj => ?_⟩⟩⟩
      rw [eg2, haI_saI, if_pos rfl, u1_apply]
      by_cases e : j = k
      · subst e; rw [if_pos rfl]
      · rw [if_neg (by omega)]; exact Dj j (by omega)
theorem d_append {zz : Nat → Nat} {y : Nat} {c : Int} {h : AH} {Q : Int → AH → Prop} {D : DT} (R : MRl h y D)
    (q : (33 ≤ c ∧ c ≤ 126) → D.2.2.2.2 < 60 → ∀ h' : AH, Ga h h' y (y + 17) → MRl h' y (dApp D c) → hfI h' y 0 = 0 → Q ((D.2.2.2.2 + 1 : Nat) : Int) h')
    (q1 : ¬ (33 ≤ c ∧ c ≤ 126) → ∀ h' : AH, Ga h h' y (y + 17) → MRl h' y D → hfI h' y 0 = 1 → Q 0 h')
    (q2 : (33 ≤ c ∧ c ≤ 126) → ¬ D.2.2.2.2 < 60 → ∀ h' : AH, Ga h h' y (y + 17) → MRl h' y D → hfI h' y 0 = 2 → Q 0 h') : w_X7_append zz y c h Q := by
  have R1 : ∀ t : Int, MRl (sfI h y 0 t) y D := fun t => R.th
  have l60 := R.2.2.2.2.2.2.2.2.1
  unfold w_X7_append
  refine d_within ?_
  rw [jn_def]
  by_cases hc : 33 ≤ c ∧ c ≤ 126
  · rw [if_pos hc]
    refine ⟨fun _ => ⟨by rw [okA_of R.1.1], ?_⟩, fun h => absurd h (by omega)⟩
    rw [R.2.2.2.2.2.2.2.1]
    refine ⟨fun ne => ⟨by rw [okP_of R.1.1]; exact ⟨rfl, R.1.2.1⟩, fun g eg => ?_⟩, fun e => ⟨by rw [okP_of R.1.1]; exact ⟨rfl, R.1.2.1⟩, fun g eg => ?_⟩⟩
    · have Rg : MRl g y D := by rw [eg]; exact R.th
      have eg0 : hfI g y 0 = 0 := by rw [eg]; exact th_at
      have Gg : Ga h g y (y + 17) := by rw [eg]; exact Ga.th
      obtain ⟨K, Z, G, n2, n6, S, GSv, b4, b60, B⟩ := Rg
      refine ⟨by rw [okA_of K.1], ?_⟩
      rw [eg0]
      refine ⟨fun _ => ⟨by rw [okA_of K.1], y + 3, K.2.2.2.2.2.1, by rw [okA_of K.1], ?_⟩, fun h => absurd (Int.le_refl 0) h⟩
      rw [b4]
      refine ⟨by rw [okW_of K.2.2.1.2.2.1]; have := K.2.1; omega, fun g1 eg1 => ?_⟩
      have F1 : Fr g g1 (y + 3) (y + 4) := by rw [eg1]; exact Fr.sa (by omega) (by omega)
      have K1 := K.fr F1
      have f4 : hfI g1 y 4 = (D.2.2.2.2 : Int) := by rw [F1.fi (by omega)]; exact b4
      refine ⟨by rw [okA_of K1.1], ?_⟩
      rw [f4]
      refine ⟨by unfold inR; omega, by rw [okP_of K1.1]; exact ⟨rfl, K1.2.1⟩, fun g2 eg2 => ?_⟩
      have F2 : Fr g1 g2 y (y + 1) := by rw [eg2]; exact Fr.sf (by omega) (by omega)
      have K2 := K1.fr F2
      have f42 : hfI g2 y 4 = ((D.2.2.2.2 + 1 : Nat) : Int) := by rw [eg2, hfI_sfI, if_pos rfl, if_pos rfl]; omega
      refine ⟨by rw [okA_of K2.1], ?_⟩
      rw [f42]
      refine q hc (by omega) g2 (Gg.trans ((F1.ga (by omega) (by omega)).trans (F2.ga (by omega) (by omega)))) ⟨K2, fun k hk => ?_, G, ?_, n6, fun i j hi hj => ?_, GSv, f42, by show D.2.2.2.2 + 1 ≤ 60; omega, fun k hk => ?_⟩ ?_
      · rw [F2.ai (by omega), F1.ai (by omega)]; exact Z k hk
      · rw [eg2, hfI_sfI, if_pos rfl, if_neg (by omega), F1.fi (by omega)]; exact n2
      · rw [F2.ai (by omega), F1.ai (by omega)]; exact S i j hi hj
      · have hk : k < D.2.2.2.2 + 1 := hk
        rw [F2.ai (by omega), eg1, haI_saI, if_pos rfl, u1_apply]
        show _ = un D.2.2.2.1 D.2.2.2.2 c k
        by_cases e : k = D.2.2.2.2
        · rw [if_pos (by omega), e, un_s]
        · rw [if_neg (by omega), un_n e]; exact B k (by omega)
      · rw [eg2, hfI_sfI, if_pos rfl, if_neg (by omega), F1.fi (by omega)]; exact eg0
    · subst eg
      refine ⟨by rw [okA_of (R1 2).1.1], ?_⟩
      rw [th_at]
      exact ⟨fun h => absurd h (by omega), fun _ => q2 hc (by omega) _ Ga.th (R1 2) th_at⟩
  · rw [if_neg hc]
    refine ⟨fun h => absurd rfl h, fun _ => ⟨by rw [okP_of R.1.1]; exact ⟨rfl, R.1.2.1⟩, fun g eg => ?_⟩⟩
    subst eg
    refine ⟨by rw [okA_of (R1 1).1.1], ?_⟩
    rw [th_at]
    exact ⟨fun h => absurd h (by omega), fun _ => q1 hc _ Ga.th (R1 1) th_at⟩
theorem d_clear {zz : Nat → Nat} {y : Nat} {h : AH} {Q : Int → AH → Prop} {D : DT} (R : MRl h y D) (q : ∀ h' : AH, Ga h h' y (y + 17) → MRl h' y (dClr D) → hfI h' y 0 = 0 → Q (D.2.2.2.2 : Int) h') : w_X7_clearBuffer zz y h Q := by
  unfold w_X7_clearBuffer
  refine ⟨by rw [okP_of R.1.1]; exact ⟨rfl, R.1.2.1⟩, fun g eg => ?_⟩
  have Rg : MRl g y D := by rw [eg]; exact R.th
  have eg0 : hfI g y 0 = 0 := by rw [eg]; exact th_at
  have Gg : Ga h g y (y + 17) := by rw [eg]; exact Ga.th
  obtain ⟨K, Z, G, n2, n6, S, GSv, b4, b60, B⟩ := Rg
  refine ⟨by rw [okA_of K.1], ?_⟩
  rw [b4]
  intro x ex
  subst ex
  refine ⟨by rw [okP_of K.1]; exact ⟨rfl, K.2.1⟩, fun g2 eg2 => ?_⟩
  have F2 : Fr g g2 y (y + 1) := by rw [eg2]; exact Fr.sf (by omega) (by omega)
  refine q g2 (Gg.trans (F2.ga (by omega) (by omega))) ⟨K.fr F2, fun k hk => by rw [F2.ai (by omega)]; exact Z k hk, G, ?_, n6, fun i j hi hj => by rw [F2.ai (by omega)]; exact S i j hi hj, GSv, ?_, by show 0 ≤ 60; omega, fun k hk => absurd hk (Nat.not_lt_zero k)⟩ ?_
  · rw [eg2, hfI_sfI, if_pos rfl, if_neg (by omega)]; exact n2
  · rw [eg2, hfI_sfI, if_pos rfl, if_pos rfl]; rfl
  · rw [eg2, hfI_sfI, if_pos rfl, if_neg (by omega)]; exact eg0
theorem MRl.rd {g g2 : AH} {y : Nat} {D : DT} (R : MRl g y D) (F : Fr g g2 (y + 16) (y + 17)) : MRl g2 y D := R.c (R.1.fr F) (R.2.1.fr F (by omega)) (F.ai (by omega)) (F.ai (by omega)) (by rw [F.fi (by omega)]) (by rw [F.fi (by omega)])
theorem d_firstError {zz : Nat → Nat} {y : Nat} {h : AH} {Q : Int → AH → Prop} {D : DT} (R : MRl h y D) (q : ∀ h' : AH, Ga h h' y (y + 17) → MRl h' y D → hfI h' y 0 = 0 → Q (rE D.2.2.2.1 D.2.2.2.2 : Int) h') : w_X7_firstError zz y h Q := by
  unfold w_X7_firstError
  refine ⟨by rw [okP_of R.1.1]; exact ⟨rfl, R.1.2.1⟩, fun g eg => ?_⟩
  have Rg : MRl g y D := by rw [eg]; exact R.th
  have eg0 : hfI g y 0 = 0 := by rw [eg]; exact th_at
  have Gg : Ga h g y (y + 17) := by rw [eg]; exact Ga.th
  exact ⟨by rw [okA_of Rg.1.1], d_readText Rg.1 Rg.2.2.2.2.2.2.2.1 Rg.2.2.2.2.2.2.2.2.1 Rg.2.2.2.2.2.2.2.2.2 (fun g2 F2 _ => q g2 (Gg.trans (F2.ga (by omega) (by omega))) (Rg.rd F2) (by rw [F2.fi (by omega)]; exact eg0))⟩
set_option maxHeartbeats 1000000 in
theorem d_swap {zz : Nat → Nat} {y : Nat} {h : AH} {Q : Int → AH → Prop} {D : DT} (R : MRl h y D) (q : ∀ (F : Nat) (h' : AH), Ga h h' y (y + 17) → MRl h' y (dSwap D) → isFF D.1.2.1 D.1.1 D.1.2.2 F → hfI h' y 0 = 0 → Q (nFr D.1.2.1 D.1.1 D.1.2.2 F) h') : w_X7_swap zz y h Q := by
  unfold w_X7_swap
  refine ⟨by rw [okP_of R.1.1]; exact ⟨rfl, R.1.2.1⟩, fun g eg => ?_⟩
  have Rg : MRl g y D := by rw [eg]; exact R.th
  have eg0 : hfI g y 0 = 0 := by rw [eg]; exact th_at
  have Gg : Ga h g y (y + 17) := by rw [eg]; exact Ga.th
  refine ⟨by rw [okA_of Rg.1.1], d_save Rg (fun g1 G1 R1 e1 _ => ?_)⟩
  have Z1 := R1.zr
  have K1 := R1.1
  obtain ⟨I, hI⟩ : ∃ I : Nat → Int → AH → Prop, ∀ m x h', I m x h' ↔ ∃ k : Nat, k ≤ 80 ∧ m = 80 - k ∧ x = (k : Int) ∧ Fr g1 h' (y + 1) (y + 2) ∧ ∀ j : Nat, j < 168 → haI h' (y + 1) j = if j < k then zA D.1.1 D.1.2.1 D.1.2.2 (80 + j) else if 80 ≤ j ∧ j < 80 + k then zA D.1.1 D.1.2.1 D.1.2.2 (j - 80) else zA D.1.1 D.1.2.1 D.1.2.2 j := ⟨_, fun _ _ _ => Iff.rfl⟩
  refine ⟨I, ⟨80, (hI _ _ _).mpr ⟨0, by omega, rfl, rfl, Fr.refl _ _ _, fun j hj => by rw [if_neg (by omega), if_neg (by omega)]; exact Z1 j hj⟩⟩, ?_⟩
  intro m x h' hi9
  obtain ⟨k, hk, rfl, rfl, F, Dj⟩ := (hI _ _ _).mp hi9
  have K2 := K1.fr F
  refine ⟨fun hc => ?_, fun hc => ⟨by rw [okA_of K2.1], y + 1, K2.2.2.2.1, by rw [okI_of K2.2.2.1.1]; omega, ?_⟩⟩
  · obtain rfl : k = 80 := by omega
    have R2 : MRl h' y (dSwap D) := by
      refine R1.z (D' := (D.1.2.1, D.1.1, D.1.2.2)) F (fun j hj => ?_) ⟨R.2.2.1.2.1, R.2.2.1.1, R.2.2.1.2.2⟩
      rw [Dj j hj]
      unfold zA
      by_cases h1 : j < 80
      · rw [if_pos h1, if_neg (by omega), if_pos (by omega), if_pos h1, show 80 + j - 80 = j by omega]
      · rw [if_neg h1]
        by_cases h2 : j < 160
        · rw [if_pos (by omega), if_pos (by omega), if_neg h1, if_pos h2]
        · rw [if_neg (by omega), if_neg h1, if_neg h2, if_neg h1, if_neg h2]
    refine ⟨by rw [okA_of K2.1], d_layR R2 (fun F3 g3 G3 R3 M3 e3 _ => ⟨by rw [okA_of R3.1.1], d_frames M3 ?_⟩)⟩
    exact q F3 g3 (Gg.trans (G1.trans ((F.ga (by omega) (by omega)).trans G3))) R3 M3.2.2.2 (by rw [e3, F.fi (by omega), e1]; exact eg0)
  · have d1 := Dj k (by omega)
    rw [if_neg (by omega), if_neg (by omega)] at d1
    have d2 := Dj (80 + k) (by omega)
    rw [if_neg (by omega), if_neg (by omega), show ((80 + k : Nat) : Int) = (80 : Int) + (k : Int) by omega] at d2
    rw [d1]
    intro x2 ex2
    subst ex2
    refine ⟨by rw [okA_of K2.1], y + 1, K2.2.2.2.1, by rw [okA_of K2.1], y + 1, K2.2.2.2.1, by unfold inR; omega, by rw [okI_of K2.2.2.1.1]; omega, by rw [okW_of K2.2.2.1.1]; have := K2.2.1; omega, ?_⟩
    rw [d2]
    intro g2 eg2
    have F2 : Fr h' g2 (y + 1) (y + 2) := by rw [eg2]; exact Fr.sa (by omega) (by omega)
    have K3 := K2.fr F2
    refine ⟨by rw [okA_of K3.1], y + 1, K3.2.2.2.1, by unfold inR; omega, by rw [okW_of K3.2.2.1.1]; have := K3.2.1; omega, ?_⟩
    intro g3 eg3
    refine ⟨by unfold inR; omega, fun x4 e4 => ⟨80 - (k + 1), by omega, (hI _ _ _).mpr ⟨k + 1, by omega, rfl, by omega, F.trans (F2.trans (by rw [eg3]; exact Fr.sa (by omega) (by omega))), fun j hj => ?_⟩⟩⟩
    rw [eg3, haI_saI, if_pos rfl, u1_apply, eg2, haI_saI, if_pos rfl, u1_apply]
    by_cases e1 : j = 80 + k
    · rw [if_pos (by omega), if_neg (by omega), if_pos (by omega), e1, show 80 + k - 80 = k by omega]
    · rw [if_neg (by omega)]
      by_cases e2 : j = k
      · rw [if_pos (by omega), if_pos (by omega), e2]
      · rw [if_neg (by omega), Dj j hj]
        by_cases h1 : j < k
        · rw [if_pos h1, if_pos (by omega)]
        · rw [if_neg h1, if_neg (show ¬ j < k + 1 by omega)]
          by_cases h2 : 80 ≤ j ∧ j < 80 + k
          · rw [if_pos h2, if_pos (by omega)]
          · rw [if_neg h2, if_neg (by omega)]
