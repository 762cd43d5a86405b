/-! THE PURE LAYER, 36: what the model's object at y holds; save -/
def sdA (D : DT) (i : Nat) : Nat → Int := zA (D.2.1 i).1 (D.2.1 i).2.1 (D.2.1 i).2.2
def MRl (h : AH) (y : Nat) (D : DT) : Prop := MdK h y ∧ ZR h y D.1.1 D.1.2.1 D.1.2.2 ∧ GD D.1 ∧ hfI h y 2 = (D.2.2.1 : Int) ∧ D.2.2.1 ≤ 6 ∧ (∀ i k : Nat, i < D.2.2.1 → k < 168 → haI h (y + 2) ((168 : Int) * (i : Int) + (k : Int)) = sdA D i k) ∧ (∀ i, i < D.2.2.1 → GD (D.2.1 i)) ∧ hfI h y 4 = (D.2.2.2.2 : Int) ∧ D.2.2.2.2 ≤ 60 ∧ ∀ k : Nat, k < D.2.2.2.2 → haI h (y + 3) k = D.2.2.2.1 k
theorem MRl.c {h h' : AH} {y : Nat} {D : DT} (R : MRl h y D) (K : MdK h' y) (Z : ZR h' y D.1.1 D.1.2.1 D.1.2.2) (e2 : haI h' (y + 2) = haI h (y + 2)) (e3 : haI h' (y + 3) = haI h (y + 3)) (f2 : hfI h' y 2 = hfI h y 2) (f4 : hfI h' y 4 = hfI h y 4) : MRl h' y D := by
  obtain ⟨r1, r2, r3, r4, r5, r6, r7, r8, r9, r10⟩ := R
  exact ⟨K, Z, r3, by rw [f2]; exact r4, r5, fun i k hi hk => by rw [e2]; exact r6 i k hi hk, r7, by rw [f4]; exact r8, r9, fun k hk => by rw [e3]; exact r10 k hk⟩
theorem MRl.lf {h h' : AH} {y c : Nat} {D : DT} (R : MRl h y D) (F : Lf h h' y c) (hc : y + 4 ≤ c) : MRl h' y D := R.c (R.1.fr F.1) (fun k hk => by rw [F.2.1 _ (by omega)]; exact R.2.1 k hk) (F.2.1 _ (by omega)) (F.2.1 _ (by omega)) (F.2.2 2 (by omega)) (F.2.2 4 (by omega))
theorem MRl.lb {h h' : AH} {y : Nat} {D : DT} (R : MRl h y D) (F : Lb h h' y) (Z : ZR h' y D.1.1 D.1.2.1 D.1.2.2) : MRl h' y D := R.c (R.1.fr F.1) Z (F.2.1 _ (by omega) (by omega)) (F.2.1 _ (by omega) (by omega)) (F.2.2 2 (by omega)) (F.2.2 4 (by omega))
theorem Fr.th {h : AH} {y k : Nat} {t : Int} : Fr h (sfI h y k t) y (y + 1) := Fr.sf (by omega) (by omega)
theorem MRl.th {h : AH} {y : Nat} {t : Int} {D : DT} (R : MRl h y D) : MRl (sfI h y 0 t) y D := R.c (R.1.fr Fr.th) R.2.1 rfl rfl (by rw [hfI_sfI, if_pos rfl, if_neg (by omega)]) (by rw [hfI_sfI, if_pos rfl, if_neg (by omega)])
theorem MLy.th {h : AH} {y F : Nat} {t : Int} {c0 c1 st : Nat → Int} (M : MLy h y c0 c1 st F) : MLy (sfI h y 0 t) y c0 c1 st F := by
  obtain ⟨V, P, ⟨m1, m2, m3⟩, iF⟩ := M
  exact ⟨V.fr Fr.th (by omega), P.fr Fr.th (by omega), ⟨by rw [hfI_sfI, if_pos rfl, if_neg (by omega)]; exact m1, m2, m3⟩, iF⟩
theorem th_at {h : AH} {y : Nat} {t : Int} : hfI (sfI h y 0 t) y 0 = t := by rw [hfI_sfI, if_pos rfl, if_pos rfl]
theorem Ga.th {h : AH} {y : Nat} {t : Int} : Ga h (sfI h y 0 t) y (y + 17) := Fr.th.ga (by omega) (by omega)
theorem d_layR {zz : Nat → Nat} {y : Nat} {h : AH} {Q : AH → Prop} {D : DT} (R : MRl h y D) (q : ∀ (F : Nat) (h' : AH), Ga h h' y (y + 17) → MRl h' y D → MLy h' y D.1.1 D.1.2.1 D.1.2.2 F → hfI h' y 0 = hfI h y 0 → hfL h' = hfL h → Q h') : w_X7_lay zz y h Q := d_lay R.1 R.2.1 R.2.2.1.1 R.2.2.1.2.1 R.2.2.1.2.2 (fun F h' L M => q F h' (L.1.ga (by omega) (by omega)) (R.lf L (by omega)) M (L.2.2 0 (by omega)) L.1.1.2.2.2.2.1)
set_option maxHeartbeats 2000000 in
theorem d_save {zz : Nat → Nat} {y : Nat} {h : AH} {Q : AH → Prop} {D : DT} (R : MRl h y D) (q : ∀ h' : AH, Ga h h' y (y + 17) → MRl h' y (dsv D) → hfI h' y 0 = hfI h y 0 → haI h' (y + 16) = haI h (y + 16) → Q h') : w_X7_save zz y h Q := by
  have R0 := R
  obtain ⟨K, Z, G, n2, n6, S, GSv, b4, b60, B⟩ := R
  have copy : ∀ (g : AH) (sv' : Nat → D3) (n : Nat), n < 6 → Fr h g y (y + 3) → MdK g y → haI g (y + 1) = haI h (y + 1) → hfI g y 0 = hfI h y 0 → hfI g y 4 = hfI h y 4 → hfI g y 2 = (n : Int) → (∀ i k : Nat, i < n → k < 168 → haI g (y + 2) ((168 : Int) * (i : Int) + (k : Int)) = zA (sv' i).1 (sv' i).2.1 (sv' i).2.2 k) → (∀ i, i < n → GD (sv' i)) → dsv D = (D.1, fun i => if i = n then D.1 else sv' i, n + 1, D.2.2.2) → ∃ I_54 : Nat → Int → AH → Prop, (∃ n, I_54 n (0 : Int) g) ∧ ∀ (n_54 : Nat) (x1_54 : Int) (h_54 : AH), I_54 n_54 x1_54 h_54 → ((((168 : Int) ≤ x1_54) → okA h_54 y 7 ∧ inR ((hfI h_54 y 2) + (1 : Int)) ∧ okP h_54 y 7 ∧ ∀ h95 : AH, h95 = sfI h_54 y 2 ((hfI h_54 y 2) + (1 : Int)) → Q h95) ∧ ((¬ ((168 : Int) ≤ x1_54)) → okA h_54 y 7 ∧ ∃ b62 : Nat, hfR h_54 y 3 = some b62 ∧ okA h_54 y 7 ∧ inR ((168 : Int) * (hfI h_54 y 2)) ∧ inR (((168 : Int) * (hfI h_54 y 2)) + x1_54) ∧ okA h_54 y 7 ∧ ∃ b76 : Nat, hfR h_54 y 1 = some b76 ∧ okI h_54 b76 x1_54 ∧ okW h_54 b62 (((168 : Int) * (hfI h_54 y 2)) + x1_54) ∧ ∀ h81 : AH, h81 = saI h_54 b62 (u1 (haI h_54 b62) (((168 : Int) * (hfI h_54 y 2)) + x1_54) (haI h_54 b76 x1_54)) → inR (x1_54 + 1) ∧ ∀ x1_82 : Int, x1_82 = (x1_54 + 1) → ∃ m, m < n_54 ∧ I_54 m x1_82 h81)) := by
    intro g sv' n hn Fg Kg ez e0 e4 e2 Sg GSg hD
    obtain ⟨I, hI⟩ : ∃ I : Nat → Int → AH → Prop, ∀ m x h', I m x h' ↔ ∃ k : Nat, k ≤ 168 ∧ m = 168 - k ∧ x = (k : Int) ∧ Fr g h' (y + 2) (y + 3) ∧ (∀ i k : Nat, i < n → k < 168 → haI h' (y + 2) ((168 : Int) * (i : Int) + (k : Int)) = zA (sv' i).1 (sv' i).2.1 (sv' i).2.2 k) ∧ ∀ j : Nat, j < k → haI h' (y + 2) ((168 : Int) * (n : Int) + (j : Int)) = zA D.1.1 D.1.2.1 D.1.2.2 j := ⟨_, fun _ _ _ => Iff.rfl⟩
    refine ⟨I, ⟨168, (hI _ _ _).mpr ⟨0, by omega, rfl, rfl, Fr.refl _ _ _, Sg, fun j hj => by omega⟩⟩, ?_⟩
    intro m x h' hi9
    obtain ⟨k, hk, rfl, rfl, F, S1, S2⟩ := (hI _ _ _).mp hi9
    have K1 := Kg.fr F
    have e2' : hfI h' y 2 = (n : Int) := by rw [F.fi (by omega)]; exact e2
    rw [e2']
    refine ⟨fun hc => ⟨by rw [okA_of K1.1], by unfold inR; omega, by rw [okP_of K1.1]; exact ⟨rfl, K1.2.1⟩, ?_⟩, fun hc => ⟨by rw [okA_of K1.1], y + 2, K1.2.2.2.2.1, by rw [okA_of K1.1], by unfold inR; omega, by unfold inR; omega, by rw [okA_of K1.1], y + 1, K1.2.2.2.1, by rw [okI_of K1.2.2.1.1]; omega, by rw [okW_of K1.2.2.1.2.1]; have := K1.2.1; omega, ?_⟩⟩
    · obtain rfl : k = 168 := by omega
      intro g2 eg2
      have F2 : Fr h' g2 y (y + 1) := by rw [eg2]; exact Fr.sf (by omega) (by omega)
      have FF : Fr h g2 y (y + 3) := Fg.trans ((F.wide (by omega) (by omega)).trans (F2.wide (by omega) (by omega)))
      refine q g2 (FF.ga (by omega) (by omega)) ?_ ?_ (by rw [FF.ai (by omega)])
      · rw [hD]
        refine ⟨K1.fr F2, fun j hj => ?_, G, ?_, by show n + 1 ≤ 6; omega, fun i j hi hj => ?_, fun i hi => ?_, ?_, b60, fun j hj => ?_⟩
        · rw [F2.ai (by omega), F.ai (by omega), ez]; exact Z j hj
        · rw [eg2, hfI_sfI, if_pos rfl, if_pos rfl]; show (n : Int) + 1 = ((n + 1 : Nat) : Int); omega
        · have hi : i < n + 1 := hi
          rw [F2.ai (by omega)]
          show _ = zA (if i = n then D.1 else sv' i).1 (if i = n then D.1 else sv' i).2.1 (if i = n then D.1 else sv' i).2.2 j
          by_cases e : i = n
          · rw [if_pos e, e]; exact S2 j hj
          · rw [if_neg e]; exact S1 i j (by omega) hj
        · have hi : i < n + 1 := hi
          show GD (if i = n then D.1 else sv' i)
          by_cases e : i = n
          · rw [if_pos e]; exact G
          · rw [if_neg e]; exact GSg i (by omega)
        · rw [eg2, hfI_sfI, if_pos rfl, if_neg (by omega), F.fi (by omega), e4]; exact b4
        · rw [FF.ai (by omega)]; exact B j hj
      · rw [eg2, hfI_sfI, if_pos rfl, if_neg (by omega), F.fi (by omega)]; exact e0
    · have zk : haI h' (y + 1) (k : Int) = zA D.1.1 D.1.2.1 D.1.2.2 k := by rw [F.ai (by omega), ez]; exact Z k (by omega)
      rw [zk]
      intro g2 eg2
      refine ⟨by unfold inR; omega, ?_⟩
      intro x3 e3
      refine ⟨168 - (k + 1), by omega, (hI _ _ _).mpr ⟨k + 1, by omega, rfl, by omega, F.trans (by rw [eg2]; exact Fr.sa (by omega) (by omega)), fun i j hi hj => ?_, fun j hj => ?_⟩⟩
      · rw [eg2, haI_saI, if_pos rfl, u1_apply, if_neg (by omega)]; exact S1 i j hi hj
      · rw [eg2, haI_saI, if_pos rfl, u1_apply]
        by_cases e : j = k
        · subst e; rw [if_pos rfl]
        · rw [if_neg (by omega)]; exact S2 j (by omega)
  unfold w_X7_save
  refine ⟨by rw [okA_of K.1], ?_⟩
  rw [jn_def, n2]
  refine ⟨fun hne => ?_, fun he => ?_⟩
  · refine copy h D.2.1 D.2.2.1 (by omega) (Fr.refl _ _ _) K rfl rfl rfl n2 S GSv ?_
    unfold dsv; rw [if_neg (by omega)]
  · have h6 : D.2.2.1 = 6 := by omega
    obtain ⟨I, hI⟩ : ∃ I : Nat → Int → AH → Prop, ∀ m x h', I m x h' ↔ ∃ k : Nat, 168 ≤ k ∧ k ≤ 1008 ∧ m = 1008 - k ∧ x = (k : Int) ∧ Fr h h' (y + 2) (y + 3) ∧ ∀ j : Nat, j < 1008 → haI h' (y + 2) j = if j + 168 < k then haI h (y + 2) ((j : Int) + 168) else haI h (y + 2) j := ⟨_, fun _ _ _ => Iff.rfl⟩
    refine ⟨I, ⟨840, (hI _ _ _).mpr ⟨168, by omega, by omega, rfl, rfl, Fr.refl _ _ _, fun j hj => by rw [if_neg (by omega)]⟩⟩, ?_⟩
    intro m x g hi9
    obtain ⟨k, hk1, hk, rfl, rfl, F, Dj⟩ := (hI _ _ _).mp hi9
    have K1 := K.fr F
    refine ⟨fun hc => ⟨by rw [okA_of K1.1], ?_, by rw [okP_of K1.1]; exact ⟨rfl, K1.2.1⟩, ?_⟩, fun hc => ⟨by rw [okA_of K1.1], y + 2, K1.2.2.2.2.1, by unfold inR; omega, by rw [okA_of K1.1], y + 2, K1.2.2.2.2.1, by rw [okI_of K1.2.2.1.2.1]; omega, by rw [okW_of K1.2.2.1.2.1]; have := K1.2.1; omega, ?_⟩⟩
    · rw [F.fi (by omega), n2]; unfold inR; omega
    · obtain rfl : k = 1008 := by omega
      intro g2 eg2
      have F2 : Fr g g2 y (y + 1) := by rw [eg2]; exact Fr.sf (by omega) (by omega)
      refine copy g2 (fun i => D.2.1 (i + 1)) 5 (by omega) ((F.wide (by omega) (by omega)).trans (F2.wide (by omega) (by omega))) (K1.fr F2) (by rw [F2.ai (by omega), F.ai (by omega)]) ?_ ?_ ?_ (fun i j hi hj => ?_) (fun i hi => GSv (i + 1) (by omega)) ?_
      · rw [eg2, hfI_sfI, if_pos rfl, if_neg (by omega), F.fi (by omega)]
      · rw [eg2, hfI_sfI, if_pos rfl, if_neg (by omega), F.fi (by omega)]
      · rw [eg2, hfI_sfI, if_pos rfl, if_pos rfl, F.fi (by omega), n2]; omega
      · have a := Dj (168 * i + j) (by omega)
        rw [if_pos (by omega)] at a
        rw [show ((168 * i + j : Nat) : Int) = (168 : Int) * (i : Int) + (j : Int) by omega] at a
        rw [F2.ai (by omega), a]
        have b := S (i + 1) j (by omega) hj
        rw [show (168 : Int) * ((i + 1 : Nat) : Int) + (j : Int) = (168 : Int) * (i : Int) + (j : Int) + 168 by omega] at b
        exact b
      · unfold dsv; rw [if_pos h6]
    · intro g2 eg2
      refine ⟨by unfold inR; omega, ?_⟩
      intro x3 e3
      have a := Dj k (by omega)
      rw [if_neg (by omega)] at a
      obtain ⟨k', hk'⟩ : ∃ k' : Nat, k = k' + 168 := ⟨k - 168, by omega⟩
      refine ⟨1008 - (k + 1), by omega, (hI _ _ _).mpr ⟨k + 1, by omega, by omega, rfl, by omega, F.trans (by rw [eg2]; exact Fr.sa (by omega) (by omega)), fun j hj => ?_⟩⟩
      rw [eg2, haI_saI, if_pos rfl, u1_apply, a]
      by_cases e : j = k'
      · rw [if_pos (by omega), if_pos (by omega), show (j : Int) + 168 = (k : Int) by omega]
      · rw [if_neg (by omega), Dj j hj]
        by_cases e2 : j + 168 < k
        · rw [if_pos e2, if_pos (by omega)]
        · rw [if_neg e2, if_neg (by omega)]
