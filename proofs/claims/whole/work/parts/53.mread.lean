/-! THE PURE LAYER, 37: the model's small checks, and its reading -/
theorem d_isSetting {zz : Nat → Nat} {s : Int} {h : AH} {Q : Int → AH → Prop} (q : Q (if 0 ≤ s ∧ s < 8 then 1 else 0) h) : w_X7_isSetting zz s h Q := by
  unfold w_X7_isSetting
  refine d_within ⟨by split <;> simp, ?_⟩
  by_cases e : 0 ≤ s ∧ s < 8
  · rw [if_pos e] at q; rw [if_pos (by omega)]; exact q
  · rw [if_neg e] at q; rw [if_neg (by omega)]; exact q
theorem d_isText {zz : Nat → Nat} {s : Int} {h : AH} {Q : Int → AH → Prop} (q : Q (if s = 0 ∨ s = 1 then 1 else 0) h) : w_X7_isText zz s h Q := by
  unfold w_X7_isText
  refine d_within ⟨by split <;> simp, ?_⟩
  by_cases e : s = 0 ∨ s = 1
  · rw [if_pos e] at q; rw [if_pos (by omega)]; exact q
  · rw [if_neg e] at q; rw [if_neg (by omega)]; exact q
theorem d_isLetter {zz : Nat → Nat} {s : Int} {h : AH} {Q : Int → AH → Prop} (q : Q (if isL s = true then 1 else 0) h) : w_X7_isLetter zz s h Q := by
  unfold w_X7_isLetter
  refine d_within ⟨by split <;> simp, ?_⟩
  by_cases e : isL s = true
  · rw [if_pos e] at q; rw [if_pos (isL_i.mp e)]; exact q
  · rw [if_neg e] at q; rw [if_neg (fun h => e (isL_i.mpr h))]; exact q
theorem d_isCell {zz : Nat → Nat} {r c : Int} {h : AH} {Q : Int → AH → Prop} (q : Q (if (0 ≤ r ∧ r < 5) ∧ 0 ≤ c ∧ c < 16 then 1 else 0) h) : w_X7_isCell zz r c h Q := by
  unfold w_X7_isCell
  refine d_within ?_
  refine jn_a1 (if (0 ≤ r ∧ r < 5) ∧ 0 ≤ c ∧ c < 16 then 1 else 0) h (fun f hf => ?_) ⟨by split <;> simp, q⟩
  rw [jn_def]
  by_cases e : 0 ≤ r ∧ r ≤ 4
  · rw [if_pos e]
    refine ⟨fun h => absurd h (by omega), fun _ => d_within ?_⟩
    by_cases e2 : 0 ≤ c ∧ c ≤ 15
    · rw [if_pos e2]
      rw [if_pos (by omega)] at hf
      exact ⟨fun h => absurd h (by omega), fun _ => hf⟩
    · rw [if_neg e2]
      rw [if_neg (by omega)] at hf
      exact ⟨fun _ => hf, fun h => absurd rfl h⟩
  · rw [if_neg e]
    rw [if_neg (by omega)] at hf
    exact ⟨fun _ => hf, fun h => absurd rfl h⟩
theorem d_isValue {zz : Nat → Nat} {s v : Int} {h : AH} {Q : Int → AH → Prop} (hs : 0 ≤ s ∧ s < 8) (q : Q (if lowV s ≤ v ∧ v ≤ topV s then 1 else 0) h) : w_X7_isValue zz s v h Q := by
  have gen : ∀ lo hi : Int, lo = lowV s → hi = topV s → w_X7_within zz v lo hi h (fun (r : Int) (h : AH) => (r = 0 ∨ r = 1) ∧ Q r h) := by
    intro lo hi e1 e2
    rw [e1, e2]
    exact d_within ⟨by split <;> simp, q⟩
  unfold w_X7_isValue
  unfold lowV topV at gen
  refine ⟨fun e => gen _ _ ?_ ?_, fun e => gen _ _ ?_ ?_, fun e => gen _ _ ?_ ?_, fun e => gen _ _ ?_ ?_, fun e => gen _ _ ?_ ?_, fun e => gen _ _ ?_ ?_, fun e => gen _ _ ?_ ?_⟩
  · rw [if_pos e]
  · rw [if_pos e]
  · rw [if_neg (by omega)]
  · rw [if_neg (by omega), if_pos (by omega)]
  · rw [if_neg (by omega)]
  · rw [if_neg (by omega), if_pos (by omega)]
  · rw [if_neg (by omega)]
  · rw [if_neg (by omega), if_neg (by omega), if_pos e]
  · rw [if_neg (by omega)]
  · rw [if_neg (by omega), if_neg (by omega), if_neg (by omega), if_pos e]
  · rw [if_neg (by omega)]
  · rw [if_neg (by omega), if_neg (by omega), if_neg (by omega), if_neg (by omega), if_pos e]
  · rw [if_neg (by omega)]
  · rw [if_neg (by omega), if_neg (by omega), if_neg (by omega), if_neg (by omega), if_neg (by omega)]
theorem d_lettersOf {zz : Nat → Nat} {y : Nat} {t : Int} {c : Nat → Int} {h : AH} {Q : Int → AH → Prop} (K : MdK h y) (ht : t = 0 ∨ t = 1) (hz : ∀ k : Nat, k < 80 → haI h (y + 1) ((80 : Int) * t + (k : Int)) = c k) (q : Q (Nc c : Int) h) : w_X7_lettersOf zz y t h Q := by
  unfold w_X7_lettersOf
  obtain ⟨I, hI⟩ : ∃ I : Nat → Int → Int → AH → Prop, ∀ m x i h', I m x i h' ↔ ∃ k : Nat, k ≤ 80 ∧ m = 80 - k ∧ i = (k : Int) ∧ x = (cn c k : Int) ∧ h' = h := ⟨_, fun _ _ _ _ => Iff.rfl⟩
  refine ⟨I, ⟨80, (hI _ _ _ _).mpr ⟨0, by omega, rfl, rfl, rfl, rfl⟩⟩, ?_⟩
  intro m x i h' hi9
  obtain ⟨k, hk, rfl, rfl, rfl, rfl⟩ := (hI _ _ _ _).mp hi9
  refine ⟨fun hc => ?_, fun hc => ?_⟩
  · obtain rfl : k = 80 := by omega
    exact q
  · have hk8 : k < 80 := by omega
    have cs := cn_s (c := c) (k := k)
    have cl := cn_le (c := c) (k := k)
    refine ⟨by rw [okA_of K.1], y + 1, K.2.2.2.1, by unfold inR; omega, by unfold inR; omega, by rw [okI_of K.2.2.1.1]; omega, ?_⟩
    rw [hz k hk8, jn_def]
    have go : ∀ u : Int, (cn c k : Int) + u = (cn c (k + 1) : Int) → 0 ≤ u ∧ u ≤ 1 → (inR ((cn c k : Int) + u) ∧ ∀ x2 : Int, x2 = ((cn c k : Int) + u) → inR ((k : Int) + 1) ∧ ∀ x3 : Int, x3 = ((k : Int) + 1) → ∃ m, m < 80 - k ∧ I m x2 x3 h') := by
      intro u hu hu2
      exact ⟨by unfold inR; omega, fun x2 e2 => ⟨by unfold inR; omega, fun x3 e3 => ⟨80 - (k + 1), by omega, (hI _ _ _ _).mpr ⟨k + 1, by omega, rfl, by omega, by omega, rfl⟩⟩⟩⟩
    refine ⟨fun ne => go 1 ?_ (by omega), fun e => go 0 ?_ (by omega)⟩
    · rw [cs, if_neg ne]; omega
    · rw [cs, if_pos e]; omega
set_option maxHeartbeats 1000000 in
theorem d_fresh {zz : Nat → Nat} {y : Nat} {h : AH} {Q : AH → Prop} (K : MdK h y) (q : ∀ h' : AH, Fr h h' (y + 1) (y + 2) → ZR h' y (fun _ => 32) (fun _ => 32) st0 → Q h') : w_X7_fresh zz y h Q := by
  unfold w_X7_fresh
  obtain ⟨I, hI⟩ : ∃ I : Nat → Int → AH → Prop, ∀ m x h', I m x h' ↔ ∃ k : Nat, k ≤ 160 ∧ m = 160 - k ∧ x = (k : Int) ∧ Fr h h' (y + 1) (y + 2) ∧ ∀ j : Nat, j < k → haI h' (y + 1) j = 32 := ⟨_, fun _ _ _ => Iff.rfl⟩
  refine ⟨I, ⟨160, (hI _ _ _).mpr ⟨0, by omega, rfl, rfl, Fr.refl _ _ _, fun j hj => by omega⟩⟩, ?_⟩
  intro m x g hi9
  obtain ⟨k, hk, rfl, rfl, F, Dj⟩ := (hI _ _ _).mp hi9
  have K1 := K.fr F
  obtain ⟨kt, kl, ⟨ka1, ka2, ka3, ka4, ka5, ka6, ka7, ka8, ka9, ka10, ka11, ka12, ka13, ka14, ka15, ka16⟩, ⟨kr1, kr2, kr3, kr4, kr5, kr6, kr7, kr8, kr9, kr10, kr11, kr12, kr13, kr14, kr15, kr16⟩⟩ := K1
  refine ⟨fun hc => ?_, fun hc => ⟨by rw [okA_of kt], y + 1, kr1, by rw [okW_of ka1]; omega, ?_⟩⟩
  · obtain rfl : k = 160 := by omega
    simp only [hkd_sfI, hkd_sfR, hkd_sfL, hkd_saI, hkd_saR, hkd_saL, hkd_nGb, hlo_sfI, hlo_sfR, hlo_sfL, hlo_saI, hlo_saR, hlo_saL, hlo_nGb, hfR_sfI, hfR_sfL, hfR_saI, hfR_saR, hfR_saL, hfR_nGb, hfI_sfR, hfI_sfL, hfI_saI, hfI_saR, hfI_saL, hfI_nGb, haI_sfI, haI_sfR, haI_sfL, haI_saR, haI_saL, haI_nGb, haR_sfI, haR_sfR, haR_saI, haR_nGb, haL_sfI, haL_saI, hfL_sfI, hfL_saI, hfI_sfI, hfR_sfR, hfL_sfL, haI_saI, haR_saR, haL_saL, okA, okP, okI, okW, okJ, okV, okQ, okU, okC, jn_def, pair_ex, some_ex, forall_eq, kt, ka1, kr1, Nat.add_left_cancel_iff, Nat.reduceEqDiff, Nat.add_eq_left, Nat.left_eq_add, if_true, if_false, Nat.reduceAdd, true_and, and_true, Nat.one_ne_zero, Nat.succ_ne_self, saI_saI]
    refine ⟨⟨by omega, by omega, by omega⟩, ⟨by omega, by omega, by omega⟩, ⟨by omega, by omega, by omega⟩, ⟨by omega, by omega, by omega⟩, ⟨by omega, by omega, by omega⟩, ⟨by omega, by omega, by omega⟩, ⟨by omega, by omega, by omega⟩, ⟨by omega, by omega, by omega⟩, ?_⟩
    refine q _ (F.trans (Fr.sa (by omega) (by omega))) (fun j hj => ?_)
    rw [haI_saI, if_pos rfl]
    simp only [u1_apply]
    by_cases e : j < 160
    · rw [if_neg (by omega), if_neg (by omega), if_neg (by omega), if_neg (by omega), if_neg (by omega), if_neg (by omega), if_neg (by omega), if_neg (by omega), Dj j e]
      unfold zA
      by_cases e2 : j < 80
      · rw [if_pos e2]
      · rw [if_neg e2, if_pos e]
    · have : j = 160 ∨ j = 161 ∨ j = 162 ∨ j = 163 ∨ j = 164 ∨ j = 165 ∨ j = 166 ∨ j = 167 := by omega
      rcases this with rfl | rfl | rfl | rfl | rfl | rfl | rfl | rfl <;> rfl
  · intro g2 eg2
    refine ⟨by unfold inR; omega, ?_⟩
    intro x3 e3
    refine ⟨160 - (k + 1), by omega, (hI _ _ _).mpr ⟨k + 1, by omega, rfl, by omega, F.trans (by rw [eg2]; exact Fr.sa (by omega) (by omega)), fun j hj => ?_⟩⟩
    rw [eg2, haI_saI, if_pos rfl, u1_apply]
    by_cases e : j = k
    · rw [if_pos (by omega)]
    · rw [if_neg (by omega)]; exact Dj j (by omega)
theorem d_replaced {zz : Nat → Nat} {y p : Nat} {v : Int} {h : AH} {Q : Int → AH → Prop} {D : DT} {D' : D3} (R : MRl h y D) (hp : p < 168) (hD : ∀ k, k < 168 → zA D'.1 D'.2.1 D'.2.2 k = un (zA D.1.1 D.1.2.1 D.1.2.2) p v k) (G : GD D') (q : ∀ h' : AH, Ga h h' y (y + 17) → MRl h' y (D', (dsv D).2) → hfI h' y 0 = hfI h y 0 → Q (zA D.1.1 D.1.2.1 D.1.2.2 p) h') : w_X7_replaced zz y p v h Q := by
  have d1 : (dsv D).1 = D.1 := by unfold dsv; split <;> rfl
  unfold w_X7_replaced
  refine ⟨by rw [okA_of R.1.1], d_save R (fun g Gg Rg e0 _ => ?_)⟩
  obtain ⟨K, Z, G1, r⟩ := Rg
  rw [d1] at Z
  refine ⟨by rw [okA_of K.1], y + 1, K.2.2.2.1, by rw [okI_of K.2.2.1.1]; omega, ?_⟩
  rw [Z p hp]
  intro x ex
  subst ex
  refine ⟨by rw [okA_of K.1], y + 1, K.2.2.2.1, by rw [okW_of K.2.2.1.1]; have := K.2.1; omega, ?_⟩
  intro g2 eg2
  have F2 : Fr g g2 (y + 1) (y + 2) := by rw [eg2]; exact Fr.sa (by omega) (by omega)
  refine q g2 (Gg.trans (F2.ga (by omega) (by omega))) ?_ (by rw [F2.fi (by omega)]; exact e0)
  obtain ⟨r4, r5, r6, r7, r8, r9, r10⟩ := r
  refine ⟨K.fr F2, fun k hk => ?_, G, by rw [F2.fi (by omega)]; exact r4, r5, fun i j hi hj => by rw [F2.ai (by omega)]; exact r6 i j hi hj, r7, by rw [F2.fi (by omega)]; exact r8, r9, fun j hj => by rw [F2.ai (by omega)]; exact r10 j hj⟩
  show _ = zA D'.1 D'.2.1 D'.2.2 k
  rw [hD k hk, eg2, haI_saI, if_pos rfl, u1_apply]
  by_cases e : k = p
  · subst e; rw [if_pos rfl, un_s]
  · rw [if_neg (by omega), un_n e]; exact Z k hk
theorem zA_s {c0 c1 st : Nat → Int} {s : Nat} {v : Int} : ∀ k, k < 168 → zA c0 c1 (un st s v) k = un (zA c0 c1 st) (160 + s) v k := by
  intro k hk
  by_cases e : k = 160 + s
  · subst e
    rw [un_s]; unfold zA
    rw [if_neg (by omega), if_neg (by omega), show 160 + s - 160 = s by omega, un_s]
  · rw [un_n e]; unfold zA
    by_cases h1 : k < 80
    · rw [if_pos h1, if_pos h1]
    · rw [if_neg h1, if_neg h1]
      by_cases h2 : k < 160
      · rw [if_pos h2, if_pos h2]
      · rw [if_neg h2, if_neg h2, un_n (by omega)]
theorem zA_0 {c0 c1 st : Nat → Int} {p : Nat} {v : Int} (hp : p < 80) : ∀ k, k < 168 → zA (un c0 p v) c1 st k = un (zA c0 c1 st) p v k := by
  intro k hk
  by_cases e : k = p
  · subst e
    rw [un_s]; unfold zA
    rw [if_pos hp, un_s]
  · rw [un_n e]; unfold zA
    by_cases h1 : k < 80
    · rw [if_pos h1, if_pos h1, un_n e]
    · rw [if_neg h1, if_neg h1]
theorem zA_1 {c0 c1 st : Nat → Int} {p : Nat} {v : Int} (hp : p < 80) : ∀ k, k < 168 → zA c0 (un c1 p v) st k = un (zA c0 c1 st) (80 + p) v k := by
  intro k hk
  by_cases e : k = 80 + p
  · subst e
    rw [un_s]; unfold zA
    rw [if_neg (by omega), if_pos (by omega), show 80 + p - 80 = p by omega, un_s]
  · rw [un_n e]; unfold zA
    by_cases h1 : k < 80
    · rw [if_pos h1, if_pos h1]
    · rw [if_neg h1, if_neg h1]
      by_cases h2 : k < 160
      · rw [if_pos h2, if_pos h2, un_n (by omega)]
      · rw [if_neg h2, if_neg h2]
set_option maxHeartbeats 2000000 in
theorem d_readText {zz : Nat → Nat} {y len : Nat} {buf : Nat → Int} {h : AH} {Q : Int → AH → Prop} (K : MdK h y) (e4 : hfI h y 4 = (len : Int)) (l60 : len ≤ 60) (hb : ∀ k : Nat, k < len → haI h (y + 3) k = buf k) (q : ∀ h' : AH, Fr h h' (y + 16) (y + 17) → (∀ c : Nat, c < 80 → haI h' (y + 16) c = (rR buf (rE buf len)).2.2.2 c) → Q (rE buf len : Int) h') : w_X7_readText zz y h Q := by
  unfold w_X7_readText
  obtain ⟨Z, hZ⟩ : ∃ Z : Nat → Int → AH → Prop, ∀ m x h', Z m x h' ↔ ∃ k : Nat, k ≤ 80 ∧ m = 80 - k ∧ x = (k : Int) ∧ Fr h h' (y + 16) (y + 17) ∧ ∀ j : Nat, j < k → haI h' (y + 16) j = 32 := ⟨_, fun _ _ _ => Iff.rfl⟩
  refine ⟨Z, ⟨80, (hZ _ _ _).mpr ⟨0, by omega, rfl, rfl, Fr.refl _ _ _, fun j hj => by omega⟩⟩, ?_⟩
  intro m x g hi9
  obtain ⟨k0, hk0, rfl, rfl, F0, D0⟩ := (hZ _ _ _).mp hi9
  refine ⟨fun hc => ?_, fun hc => ?_⟩
  rotate_left
  · have K1 := K.fr F0
    refine ⟨by rw [okA_of K1.1], y + 16, K1.2.2.2.2.2.2.2.2.2.2.2.2.2.2.2.2.2.2, by rw [okW_of K1.2.2.1.2.2.2.2.2.2.2.2.2.2.2.2.2.2.2]; have := K1.2.1; omega, ?_⟩
    intro g2 eg2
    refine ⟨by unfold inR; omega, ?_⟩
    intro x3 e3
    refine ⟨80 - (k0 + 1), by omega, (hZ _ _ _).mpr ⟨k0 + 1, by omega, rfl, by omega, F0.trans (by rw [eg2]; exact Fr.sa (by omega) (by omega)), fun j hj => ?_⟩⟩
    rw [eg2, haI_saI, if_pos rfl, u1_apply]
    by_cases e : j = k0
    · rw [if_pos (by omega)]
    · rw [if_neg (by omega)]; exact D0 j (by omega)
  obtain rfl : k0 = 80 := by omega
  clear hi9 hc
  obtain ⟨I, hI⟩ : ∃ I : Nat → Int → Int → Int → Int → AH → Prop, ∀ m x1 x2 x3 x4 h', I m x1 x2 x3 x4 h' ↔ ∃ k : Nat, k ≤ len ∧ m = len - k ∧ x4 = (k : Int) ∧ x1 = (rR buf k).1 ∧ x2 = (rR buf k).2.1 ∧ x3 = (rR buf k).2.2.1 ∧ Fr h h' (y + 16) (y + 17) ∧ (∀ c : Nat, c < 80 → haI h' (y + 16) c = (rR buf k).2.2.2 c) ∧ ∀ j, j < k → rok (rR buf j) (buf j) = true := ⟨_, fun _ _ _ _ _ _ => Iff.rfl⟩
  refine ⟨I, ⟨_, (hI _ _ _ _ _ _).mpr ⟨0, by omega, rfl, rfl, rfl, rfl, rfl, F0, D0, fun j hj => by omega⟩⟩, ?_⟩
  intro m x1 x2 x3 x4 h' hi9
  obtain ⟨k, hk, rfl, rfl, rfl, rfl, rfl, F1, D1, K1⟩ := (hI _ _ _ _ _ _).mp hi9
  have Kh := K.fr F1
  have w := rI_R k K1
  have y1 : hfI h' y 4 = (len : Int) := by rw [F1.fi (by omega)]; exact e4
  refine ⟨by rw [okA_of Kh.1], ?_⟩
  rw [y1]
  refine ⟨fun hc => ⟨by rw [okA_of Kh.1], ?_⟩, fun hc => ⟨by rw [okA_of Kh.1], y + 3, Kh.2.2.2.2.2.1, by rw [okI_of Kh.2.2.1.2.2.1]; omega, ?_⟩⟩
  · obtain rfl : k = len := by omega
    have e := rE_end K1
    rw [e] at q
    exact q h' F1 D1
  · have hk9 : k < len := by omega
    have y2 : haI h' (y + 3) k = buf k := by rw [F1.ai (by omega)]; exact hb k hk9
    rw [y2]
    intro c ec
    have stop : rok (rR buf k) c = false → Q (k : Int) h' := fun hn => by
      have e := rE_at hk9 K1 (by rw [← ec]; exact hn)
      rw [e] at q
      exact q h' F1 D1
    have step : rR buf (k + 1) = rst (rR buf k) c := by rw [ec]; rfl
    obtain ⟨w1, w2, w3, w4, w5, w6⟩ := w
    have fin : ∀ g : AH, ∀ u1 u2 u3 : Int, rok (rR buf k) c = true → u1 = (rst (rR buf k) c).1 → u2 = (rst (rR buf k) c).2.1 → u3 = (rst (rR buf k) c).2.2.1 → Fr h g (y + 16) (y + 17) → (∀ d : Nat, d < 80 → haI g (y + 16) d = (rst (rR buf k) c).2.2.2 d) → inR ((k : Int) + 1) ∧ ∀ x4 : Int, x4 = (k : Int) + 1 → ∃ m, m < len - k ∧ I m u1 u2 u3 x4 g := by
      intro g u1 u2 u3 hok e1 e2 e3 Fg Dg
      refine ⟨by unfold inR; omega, fun x4 e4 => ⟨len - (k + 1), by omega, (hI _ _ _ _ _ _).mpr ⟨k + 1, by omega, rfl, by omega, by rw [step]; exact e1, by rw [step]; exact e2, by rw [step]; exact e3, Fg, by rw [step]; exact Dg, fun j hj => ?_⟩⟩⟩
      by_cases ej : j = k
      · rw [ej, ← ec]; exact hok
      · exact K1 j (by omega)
    clear ec step
    generalize hz : rR buf k = z at *
    refine jn_a1 (if c = 47 then 1 else 0) h' (fun f hf => ?_) ?_
    · refine ⟨fun n => ?_, fun e => ?_⟩
      · rw [if_neg n] at hf; exact hf
      · rw [if_pos e] at hf; exact hf
    refine jn_a1 (if rok z c = true then 1 else 0) h' (fun f hf => ?_) ?_
    · unfold rok at hf
      by_cases e47 : c = 47
      · rw [if_pos e47] at hf ⊢
        refine ⟨fun h => absurd h (by omega), fun _ => ⟨fun h4 => ?_, fun h4 => ?_⟩⟩
        · rw [decide_eq_false (by omega)] at hf; exact hf
        · rw [decide_eq_true (by omega)] at hf; exact hf
      · rw [if_neg e47] at hf ⊢
        refine ⟨fun _ => ?_, fun h => absurd rfl h⟩
        rw [jn_def]
        refine ⟨fun h16 => ?_, fun h16 => ?_⟩
        · rw [decide_eq_false (show ¬ z.2.1 < 16 by omega)] at hf; exact hf
        · rw [decide_eq_true (show z.2.1 < 16 by omega)] at hf
          rw [jn_def]
          refine ⟨fun e46 => ?_, fun n46 => d_isLetter ?_⟩
          · rw [decide_eq_true e46] at hf; exact hf
          · rw [decide_eq_false n46] at hf
            by_cases el : isL c = true
            · rw [if_pos el]
              rw [el] at hf
              refine ⟨fun h => absurd h (by omega), fun _ => ⟨fun h40 => ?_, fun h40 => ?_⟩⟩
              · rw [decide_eq_false (show ¬ z.2.2.1 < 40 by omega)] at hf; exact hf
              · rw [decide_eq_true (show z.2.2.1 < 40 by omega)] at hf; exact hf
            · rw [if_neg el]
              rw [show isL c = false by simpa using el] at hf
              exact ⟨fun _ => hf, fun h => absurd rfl h⟩
    · by_cases hok : rok z c = true
      · rw [if_pos hok]
        refine ⟨fun _ => ?_, fun h => absurd h (by omega)⟩
        by_cases e47 : c = 47
        · rw [if_pos e47, jn_def]
          have st : rst z c = (z.1 + 1, 0, z.2.2.1, z.2.2.2) := by unfold rst; rw [if_pos e47]
          rw [st] at fin
          refine ⟨fun _ => d_isLetter ?_, fun h => absurd h (by omega)⟩
          rw [if_neg (show ¬ isL c = true by rw [isL_i]; omega)]
          refine jn_a1 0 h' (fun f hf => ⟨fun _ => hf, fun h => absurd rfl h⟩) ⟨by unfold inR; omega, fun x3 e3 => jn_a1 1 h' (fun f hf => ⟨fun h => absurd h (by omega), fun _ => hf⟩) ⟨by unfold inR; omega, fun x1 e1 => jn_a1 0 h' (fun f hf => ⟨fun h => absurd h (by omega), fun _ => hf⟩) (fin h' x1 0 x3 hok e1 rfl (by rw [e3]; exact Int.add_zero _) F1 D1)⟩⟩
        · rw [if_neg e47]
          have hcol : z.2.1 < 16 := by
            unfold rok at hok
            rw [if_neg e47] at hok
            simp only [Bool.and_eq_true, decide_eq_true_eq] at hok
            exact hok.1
          obtain ⟨p, hp⟩ : ∃ p : Nat, (p : Int) = (16 : Int) * z.1 + z.2.1 := ⟨((16 : Int) * z.1 + z.2.1).toNat, by omega⟩
          have hp2 : ((16 : Int) * z.1 + z.2.1).toNat = p := by omega
          have hp8 : p < 80 := by omega
          obtain ⟨g, hg⟩ : ∃ g, g = saI h' (y + 16) (u1 (haI h' (y + 16)) ((16 : Int) * z.1 + z.2.1) (if c = 46 then 32 else c)) := ⟨_, rfl⟩
          have Fg : Fr h' g (y + 16) (y + 17) := by rw [hg]; exact Fr.sa (by omega) (by omega)
          have Dg : ∀ d : Nat, d < 80 → haI g (y + 16) d = un z.2.2.2 p (if c = 46 then 32 else c) d := by
            intro d hd
            rw [hg, haI_saI, if_pos rfl, u1_apply]
            by_cases e : d = p
            · subst e; rw [if_pos hp, un_s]
            · rw [if_neg (by omega), un_n e]; exact D1 d hd
          refine jn_a0 g (fun f hf => ⟨fun h => absurd rfl h, fun _ => ⟨by rw [okA_of Kh.1], y + 16, Kh.2.2.2.2.2.2.2.2.2.2.2.2.2.2.2.2.2.2, by unfold inR; omega, by unfold inR; omega, jn_a1 (if c = 46 then 32 else c) h' (fun f2 hf2 => ?_) ⟨by rw [okW_of Kh.2.2.1.2.2.2.2.2.2.2.2.2.2.2.2.2.2.2]; have := Kh.2.1; omega, fun g2 eg2 => by rw [eg2, ← hg]; exact hf⟩⟩⟩) (d_isLetter ?_)
          · refine ⟨fun n => ?_, fun e => ?_⟩
            · rw [if_neg n] at hf2; exact hf2
            · rw [if_pos e] at hf2; exact hf2
          · have sb : ∀ x3 : Int, x3 = z.2.2.1 + (if isL c = true then 1 else 0) → x3 = (rst z c).2.2.1 := by
              intro x3 e3
              unfold rst
              rw [if_neg e47]
              by_cases e46 : c = 46
              · rw [if_pos e46]
                rw [if_neg (show ¬ isL c = true by rw [isL_i]; omega)] at e3
                rw [e3]; exact Int.add_zero _
              · rw [if_neg e46]
                have el : isL c = true := by
                  unfold rok at hok
                  rw [if_neg e47] at hok
                  simp only [Bool.and_eq_true, Bool.or_eq_true, decide_eq_true_eq] at hok
                  rcases hok.2 with h | h
                  · exact absurd h e46
                  · exact h.1
                rw [if_pos el] at e3
                exact e3
            have s1 : (rst z c).1 = z.1 := by
              unfold rst; rw [if_neg e47]; split <;> rfl
            have s2 : (rst z c).2.1 = z.2.1 + 1 := by
              unfold rst; rw [if_neg e47]; split <;> rfl
            have s4 : ∀ d : Nat, d < 80 → haI g (y + 16) d = (rst z c).2.2.2 d := by
              intro d hd
              rw [Dg d hd]
              unfold rst; rw [if_neg e47]
              by_cases e46 : c = 46
              · rw [if_pos e46, if_pos e46]
                show un z.2.2.2 p 32 d = z.2.2.2 d
                by_cases e : d = p
                · subst e; rw [un_s, w4 d (by omega)]
                · rw [un_n e]
              · rw [if_neg e46, if_neg e46, hp2]
            refine jn_a1 (if isL c = true then 1 else 0) g (fun f hf => ?_) ⟨by unfold inR; split <;> omega, fun x3 e3 => jn_a1 0 g (fun f hf => ⟨fun _ => hf, fun h => absurd rfl h⟩) ⟨by unfold inR; omega, fun x1 e1 => jn_a1 (z.2.1 + 1) g (fun f hf => ⟨fun _ => ⟨by unfold inR; omega, hf⟩, fun h => absurd rfl h⟩) (fin g x1 (z.2.1 + 1) x3 hok (by rw [s1, e1]; exact Int.add_zero _) s2.symm (sb x3 e3) (F1.trans Fg) s4)⟩⟩
            by_cases el : isL c = true
            · rw [if_pos el] at hf ⊢
              exact ⟨fun h => absurd h (by omega), fun _ => hf⟩
            · rw [if_neg el] at hf ⊢
              exact ⟨fun _ => hf, fun h => absurd rfl h⟩
      · rw [if_neg hok]
        exact ⟨fun h => absurd rfl h, fun _ => stop (by simpa using hok)⟩
