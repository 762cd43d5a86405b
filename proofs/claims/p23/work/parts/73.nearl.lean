/-! SECOND LAW, 4: its pairs of the nearest -/
set_option maxHeartbeats 1000000 in
theorem l_near {zz : Nat → Nat} {b p : Nat} {k reach : Int} {h : AH} {Q : AH → Prop} {c0 c1 st : Nat → Int} {σ : PT} (K : LK h b c0 c1 st) (P : PaR h p (Nc c0) σ.1 σ.2.2.1) (w : pw (Nc c0) (Nc c1) σ) (hb : b + 4 ≤ p) (hk : k = 2 ∧ reach = st 1 ∨ k = 3 ∧ reach = st 2) (q : ∀ h' : AH, Fr h h' p (p + 1) → PaR h' p (Nc c0) (nrs (canP c0 c1 st k reach) (dsL c0 c1 st) (Nc c0) (Nc c1) k σ 40).1 (nrs (canP c0 c1 st k reach) (dsL c0 c1 st) (Nc c0) (Nc c1) k σ 40).2.2.1 → Q h') : w_L_near zz k b (b + 1) (b + 2) (b + 3) p h Q := by
  have K0 := K
  obtain ⟨n8, m8⟩ := K.2.2.2.2.1
  have G := K.2.2.2.2.2.2.2
  have hr : 0 ≤ reach ∧ reach ≤ 200 := by
    rcases hk with ⟨-, h⟩ | ⟨-, h⟩
    · rw [h]; exact G.2.1
    · rw [h]; exact G.2.2.1
  have hk3 : 1 ≤ k ∧ k ≤ 3 := by omega
  obtain ⟨N, hN⟩ : ∃ N, N = nrs (canP c0 c1 st k reach) (dsL c0 c1 st) (Nc c0) (Nc c1) k σ := ⟨_, rfl⟩
  have Nw : ∀ m, pw (Nc c0) (Nc c1) (N m) := fun m => by rw [hN]; exact nrs_w hk3 canP_free w m
  obtain ⟨NS, hNS⟩ : ∃ NS : AH → Int → Nat → Nat → Prop, ∀ g y i j, NS g y i j ↔ Fr h g p (p + 1) ∧ ∃ m, PaR g p (Nc c0) (N m).1 (N m).2.2.1 ∧ NBw c0 c1 st k reach (N m) (Nc c0) (Nc c1) y i j := ⟨_, fun _ _ _ _ => Iff.rfl⟩
  unfold w_L_near
  obtain ⟨I, hI⟩ : ∃ I : Nat → Int → AH → Prop, ∀ m x g, I m x g ↔ (0 ≤ x ∧ x ≤ reach + 1) ∧ m = (reach + 1 - x).toNat ∧ NS g x 0 0 := ⟨_, fun _ _ _ => Iff.rfl⟩
  refine ⟨I, ⟨_, (hI _ _ _).mpr ⟨⟨by omega, by omega⟩, rfl, (hNS _ _ _ _).mpr ⟨Fr.refl _ _ _, 0, by rw [hN]; exact P, NBw.start (fun a c ha hc => ?_)⟩⟩⟩, ?_⟩
  · exact (dsc_bd ⟨by have := G.1.1; omega, G.1.2⟩ (Lc_lt ha) (Lc_lt hc)).1
  intro m x g hi9
  obtain ⟨hx, rfl, hS⟩ := (hI _ _ _).mp hi9
  have Kg := K0.fr ((hNS _ _ _ _).mp hS).1 (by omega)
  have fin : reach < x → Q g := by
    intro hlt
    obtain ⟨F, m, P1, B1⟩ := (hNS _ _ _ _).mp hS
    have e := B1.fin hlt
    rw [hN] at e P1
    rw [nrs_40 canP_free (by omega) e] at P1
    exact q g F P1
  have vr : haI g (b + 3) (1 : Int) = st 1 := Kg.2.2.1.2 1 (by omega)
  have vc : haI g (b + 3) (2 : Int) = st 2 := Kg.2.2.1.2 2 (by omega)
  have kse := Kg.2.2.1.1
  refine jn_in (fun K17 hK17 => ?_)
  have go : ∀ v : Int, (v = 1 ∨ v = 2) → haI g (b + 3) v = reach → K17 v g := by
    intro v hv hve
    rw [hK17]
    simp only
    rw [okI_of kse, hve]
    refine ⟨⟨by omega, by omega⟩, fin, fun hge => ?_⟩
    obtain ⟨I2, hI2⟩ : ∃ I : Nat → Int → AH → Prop, ∀ m y g2, I m y g2 ↔ ∃ i : Nat, i ≤ Nc c0 ∧ m = Nc c0 - i ∧ y = (i : Int) ∧ NS g2 x i 0 := ⟨_, fun _ _ _ => Iff.rfl⟩
    refine ⟨I2, ⟨_, (hI2 _ _ _).mpr ⟨0, by omega, rfl, rfl, hS⟩⟩, ?_⟩
    intro m2 y g2 hi2
    obtain ⟨i, hi, rfl, rfl, hS2⟩ := (hI2 _ _ _).mp hi2
    have K2 := K0.fr ((hNS _ _ _ _).mp hS2).1 (by omega)
    rw [okI_of K2.2.1.1, K2.2.1.2.1]
    refine ⟨⟨by omega, by omega⟩, fun hc => ⟨by unfold inR; omega, fun z hz => ⟨_, ?_, (hI _ _ _).mpr ⟨by omega, rfl, ?_⟩⟩⟩, fun hc => ?_⟩
    · omega
    · have : i = Nc c0 := by omega
      subst this
      obtain ⟨F, m, P1, B1⟩ := (hNS _ _ _ _).mp hS2
      rw [hz]
      exact (hNS _ _ _ _).mpr ⟨F, m, P1, B1.next⟩
    have hi0 : i < Nc c0 := by omega
    obtain ⟨I3, hI3⟩ : ∃ I : Nat → Int → AH → Prop, ∀ m y g3, I m y g3 ↔ ∃ j : Nat, j ≤ Nc c1 ∧ m = Nc c1 - j ∧ y = (j : Int) ∧ NS g3 x i j := ⟨_, fun _ _ _ => Iff.rfl⟩
    refine ⟨I3, ⟨_, (hI3 _ _ _).mpr ⟨0, by omega, rfl, rfl, hS2⟩⟩, ?_⟩
    intro m3 y3 g3 hi3
    obtain ⟨j, hj, rfl, rfl, hS3⟩ := (hI3 _ _ _).mp hi3
    have K3 := K0.fr ((hNS _ _ _ _).mp hS3).1 (by omega)
    have k3d := K3.2.1.1
    have s3 : haI g3 (b + 3) (3 : Int) = st 3 := K3.2.2.1.2 3 (by omega)
    rw [okI_of k3d, K3.2.1.2.2]
    refine ⟨⟨by omega, by omega⟩, fun hc => ⟨by unfold inR; omega, fun z hz => ⟨_, by omega, (hI2 _ _ _).mpr ⟨i + 1, by omega, rfl, by omega, ?_⟩⟩⟩, fun hc => ?_⟩
    · have : j = Nc c1 := by omega
      subst this
      obtain ⟨F, m, P1, B1⟩ := (hNS _ _ _ _).mp hS3
      exact (hNS _ _ _ _).mpr ⟨F, m, P1, B1.row⟩
    have hj0 : j < Nc c1 := by omega
    obtain ⟨F3, m, P3, B3⟩ := (hNS _ _ _ _).mp hS3
    have W3 := Nw m
    have p1 := (P3.2.2 i hi0).1
    have kp := P3.1
    have lop := P3.2.1
    refine ⟨by unfold inR; omega, by rw [okI_of kp]; exact ⟨by omega, by omega⟩, ?_⟩
    refine jn_in (fun K155 hK155 => ?_)
    have stay : ¬ (canP c0 c1 st k reach (N m) i j = true ∧ dsL c0 c1 st i j = x) → K155 g3 := by
      intro hno
      rw [hK155]
      exact ⟨by unfold inR; omega, fun z hz => ⟨_, by omega, (hI3 _ _ _).mpr ⟨j + 1, by omega, rfl, by omega, (hNS _ _ _ _).mpr ⟨F3, m, P3, B3.skip hno⟩⟩⟩⟩
    have can : canP c0 c1 st k reach (N m) i j = true ↔ (((N m).1 i = -1 ∧ (N m).2.1 j = -1) ∧ (k ≠ 2 ∨ Ac c0 i = Ac c1 j) ∧ (st 3 = 0 ∨ Lc c0 i / 16 = Lc c1 j / 16) ∧ dsL c0 c1 st i j ≤ reach) := by
      unfold canP eqB
      simp only [Bool.and_eq_true, Bool.or_eq_true, decide_eq_true_eq, and_assoc]
    rw [p1]
    refine ⟨fun hp => stay (fun h => ?_), fun hp => l_far K3 hi0 hj0 ⟨fun hd => stay (fun h => hd h.2), fun hd => ?_⟩⟩
    · have := (can.mp h.1).1.1; omega
    have hfree : (N m).1 i = -1 := by
      rcases W3.1 i hi0 with h | ⟨j2, h1, h2, -⟩
      · exact h.1
      · omega
    refine l_taken k3d K3.2.1.2.1 P3 W3 n8 hj0 ⟨fun ht => stay (fun h => ?_), fun ht => ?_⟩
    · rw [if_pos (can.mp h.1).1.2] at ht; exact ht rfl
    have hfree2 : (N m).2.1 j = -1 := by
      by_cases e : (N m).2.1 j = -1
      · exact e
      · rw [if_neg e] at ht; omega
    have ta := (K3.1.1.2 i hi0)
    have tb := (K3.1.2.2 j hj0)
    have la := Lc_lt hi0
    have lb := Lc_lt hj0
    refine jn_in (fun K104 hK104 => ?_)
    have yes : (k ≠ 2 ∨ Ac c0 i = Ac c1 j) → K104 g3 := by
      intro hkind
      rw [hK104]
      simp only
      refine ⟨by rw [okI_of K3.2.2.1.1]; exact ⟨by omega, by omega⟩, ?_⟩
      refine jn_in (fun K136 hK136 => ?_)
      have take : (st 3 = 0 ∨ Lc c0 i / 16 = Lc c1 j / 16) → K136 g3 := by
        intro hl
        have hcan : canP c0 c1 st k reach (N m) i j = true := can.mpr ⟨⟨hfree, hfree2⟩, hkind, hl, by omega⟩
        have e1 : N (m + 1) = pup (N m) i j k := by
          have := B3.is hi0 hj0 hcan hd
          rw [hN] at this ⊢
          exact this
        rw [hK136]
        simp only
        refine ⟨by unfold inR; omega, by rw [okW_of kp]; exact ⟨by omega, by omega, lop⟩, ?_⟩
        intro g4 e4
        refine ⟨by unfold inR; omega, by unfold inR; omega, by rw [okW_of (show hkd g4 p = _ by rw [e4]; exact kp)]; exact ⟨by omega, by omega, by rw [e4]; exact lop⟩, ?_⟩
        intro g5 e5
        rw [hK155]
        refine ⟨by unfold inR; omega, fun z hz => ⟨_, by omega, (hI3 _ _ _).mpr ⟨j + 1, by omega, rfl, by omega, (hNS _ _ _ _).mpr ⟨?_, m + 1, ?_, ?_⟩⟩⟩⟩
        · rw [e5, e4]; exact (F3.tsa (by omega) (by omega)).tsa (by omega) (by omega)
        · rw [e1]
          refine ⟨by rw [e5, e4]; exact kp, by rw [e5, e4]; exact lop, fun u hu => ?_⟩
          have pu := P3.2.2 u hu
          show _ = un (N m).1 i (j : Int) u ∧ _ = un (N m).2.2.1 i k u
          rw [e5, haI_saI, if_pos rfl, e4, haI_saI, if_pos rfl, u1_apply, u1_apply, u1_apply, u1_apply]
          by_cases eu : u = i
          · subst eu
            rw [un_s, un_s, if_neg (by omega), if_pos rfl, if_pos rfl]
            exact ⟨rfl, rfl⟩
          · rw [un_n eu, un_n eu, if_neg (by omega), if_neg (by omega), if_neg (by omega), if_neg (by omega)]
            exact pu
        · rw [e1]; exact B3.take
      have s3b := G.2.2.2.1
      rw [s3]
      refine ⟨fun h => take (.inl (by omega)), fun h => ⟨by unfold inR; omega, by rw [okI_of K3.1.1.1]; exact ⟨by omega, by omega⟩, by rw [ta.1]; exact ⟨by omega, by omega⟩, by unfold inR; omega, by rw [okI_of K3.1.2.1]; exact ⟨by omega, by omega⟩, by rw [tb.1]; exact ⟨by omega, by omega⟩, fun he => take (.inr ?_), fun hne => stay (fun hh => ?_)⟩⟩
      · rw [ta.1, tb.1] at he; omega
      · rw [ta.1, tb.1] at hne
        have := (can.mp hh.1).2.2.1
        omega
    refine ⟨fun hk2 => yes (.inl hk2), fun hk2 => ⟨by unfold inR; omega, by unfold inR; omega, by rw [okI_of K3.1.1.1]; exact ⟨by omega, by omega⟩, by unfold inR; omega, by unfold inR; omega, by rw [okI_of K3.1.2.1]; exact ⟨by omega, by omega⟩, fun hne => stay (fun hh => ?_), fun he => yes (.inr ?_)⟩⟩
    · rw [ta.2, tb.2] at hne
      rcases (can.mp hh.1).2.1 with h | h
      · exact h hk2
      · exact hne h
    · rw [ta.2, tb.2] at he; exact he
  refine ⟨fun h2 => go 2 (.inr rfl) (by rw [vc]; omega), fun h2 => go 1 (.inl rfl) (by rw [vr]; omega)⟩
