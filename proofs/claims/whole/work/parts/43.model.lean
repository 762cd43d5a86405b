/-! THE PURE LAYER, 27: the model's object and its letters -/
def MdK (h : AH) (y : Nat) : Prop := hkd h y = (11, 0) ∧ hlo h ≤ y ∧ (hkd h (y + 1) = (1, 168) ∧ hkd h (y + 2) = (1, 1008) ∧ hkd h (y + 3) = (1, 60) ∧ hkd h (y + 4) = (1, 2) ∧ hkd h (y + 5) = (1, 80) ∧ hkd h (y + 6) = (1, 80) ∧ hkd h (y + 7) = (1, 80) ∧ hkd h (y + 8) = (1, 80) ∧ hkd h (y + 9) = (1, 1681) ∧ hkd h (y + 10) = (1, 8400) ∧ hkd h (y + 11) = (1, 210) ∧ hkd h (y + 12) = (1, 40) ∧ hkd h (y + 13) = (1, 40) ∧ hkd h (y + 14) = (1, 40) ∧ hkd h (y + 15) = (1, 40) ∧ hkd h (y + 16) = (1, 80)) ∧ (hfR h y 1 = some (y + 1) ∧ hfR h y 3 = some (y + 2) ∧ hfR h y 5 = some (y + 3) ∧ hfR h y 6 = some (y + 4) ∧ hfR h y 7 = some (y + 5) ∧ hfR h y 8 = some (y + 6) ∧ hfR h y 9 = some (y + 7) ∧ hfR h y 10 = some (y + 8) ∧ hfR h y 11 = some (y + 9) ∧ hfR h y 13 = some (y + 10) ∧ hfR h y 14 = some (y + 11) ∧ hfR h y 15 = some (y + 12) ∧ hfR h y 16 = some (y + 13) ∧ hfR h y 17 = some (y + 14) ∧ hfR h y 18 = some (y + 15) ∧ hfR h y 19 = some (y + 16))
theorem MdK.fr {h h' : AH} {a b y : Nat} (T : MdK h y) (F : Fr h h' a b) : MdK h' y := by
  unfold MdK at *; rw [F.kd, F.rf, F.lo]; exact T
/-- the row of numbers: both texts and the settings -/
def zA (c0 c1 st : Nat → Int) (k : Nat) : Int := if k < 80 then c0 k else if k < 160 then c1 (k - 80) else st (k - 160)
def ZR (h : AH) (y : Nat) (c0 c1 st : Nat → Int) : Prop := ∀ k : Nat, k < 168 → haI h (y + 1) k = zA c0 c1 st k
theorem ZR.fr {h h' : AH} {a b y : Nat} {c0 c1 st : Nat → Int} (Z : ZR h y c0 c1 st) (F : Fr h h' a b) (ht : b ≤ y + 1 ∨ y + 2 ≤ a) : ZR h' y c0 c1 st := fun k hk => by rw [F.ai (by omega)]; exact Z k hk
theorem ZR.t0 {h : AH} {y k : Nat} {c0 c1 st : Nat → Int} (Z : ZR h y c0 c1 st) (hk : k < 80) : haI h (y + 1) (k : Int) = c0 k := by
  rw [Z k (by omega)]; unfold zA; rw [if_pos hk]
theorem ZR.t1 {h : AH} {y k : Nat} {c0 c1 st : Nat → Int} (Z : ZR h y c0 c1 st) (hk : k < 80) : haI h (y + 1) ((80 : Int) + (k : Int)) = c1 k := by
  have e := Z (80 + k) (by omega)
  rw [show ((80 + k : Nat) : Int) = (80 : Int) + (k : Int) by omega] at e
  rw [e]; unfold zA; rw [if_neg (by omega), if_pos (by omega), Nat.add_sub_cancel_left]
theorem ZR.s {h : AH} {y : Nat} {s : Int} {c0 c1 st : Nat → Int} (Z : ZR h y c0 c1 st) (hk : 0 ≤ s ∧ s < 8) : haI h (y + 1) ((160 : Int) + s) = st s.toNat := by
  have e := Z (160 + s.toNat) (by omega)
  rw [show ((160 + s.toNat : Nat) : Int) = (160 : Int) + s by omega] at e
  rw [e]; unfold zA; rw [if_neg (by omega), if_neg (by omega), Nat.add_sub_cancel_left]
/-- the letters are laid -/
def ML (h : AH) (y : Nat) (c0 c1 : Nat → Int) : Prop := haI h (y + 4) 0 = (Nc c0 : Int) ∧ haI h (y + 4) 1 = (Nc c1 : Int) ∧ (∀ i : Nat, i < Nc c0 → haI h (y + 5) i = (Lc c0 i : Int) ∧ haI h (y + 6) i = Ac c0 i) ∧ ∀ j : Nat, j < Nc c1 → haI h (y + 5) ((40 : Int) + (j : Int)) = (Lc c1 j : Int) ∧ haI h (y + 6) ((40 : Int) + (j : Int)) = Ac c1 j
def MP (h : AH) (y : Nat) (c0 c1 : Nat → Int) (σ : PT) : Prop := (∀ i : Nat, i < Nc c0 → haI h (y + 7) i = σ.1 i ∧ haI h (y + 8) i = σ.2.2.1 i) ∧ ∀ j : Nat, j < Nc c1 → haI h (y + 7) ((40 : Int) + (j : Int)) = σ.2.1 j ∧ haI h (y + 8) ((40 : Int) + (j : Int)) = σ.2.2.2 j
theorem ML.fr {h h' : AH} {a b y : Nat} {c0 c1 : Nat → Int} (L : ML h y c0 c1) (F : Fr h h' a b) (ht : b ≤ y + 4 ∨ y + 7 ≤ a) : ML h' y c0 c1 := by
  unfold ML at *
  rw [F.ai (q := y + 4) (by omega), F.ai (q := y + 5) (by omega), F.ai (q := y + 6) (by omega)]; exact L
theorem MP.fr {h h' : AH} {a b y : Nat} {c0 c1 : Nat → Int} {σ : PT} (L : MP h y c0 c1 σ) (F : Fr h h' a b) (ht : b ≤ y + 7 ∨ y + 9 ≤ a) : MP h' y c0 c1 σ := by
  unfold MP at *
  rw [F.ai (q := y + 7) (by omega), F.ai (q := y + 8) (by omega)]; exact L
theorem d_of {zz : Nat → Nat} {y : Nat} {s : Int} {h : AH} {Q : Int → AH → Prop} {c0 c1 st : Nat → Int} (K : MdK h y) (Z : ZR h y c0 c1 st) (hs : 0 ≤ s ∧ s < 8) (q : Q (st s.toNat) h) : w_X7_of zz y s h Q := by
  unfold w_X7_of
  refine ⟨by rw [okA_of K.1], y + 1, K.2.2.2.1, by unfold inR; omega, by rw [okI_of K.2.2.1.1]; omega, ?_⟩
  rw [Z.s hs]; exact q
theorem d_size {zz : Nat → Nat} {x : Int} {h : AH} {Q : Int → AH → Prop} (hx : -2000000 ≤ x ∧ x ≤ 2000000) (q : Q (ab1 x) h) : w_X7_size zz x h Q := by
  unfold w_X7_size
  unfold ab1 at q
  rw [jn_def]
  refine ⟨fun h0 => ?_, fun h0 => ⟨by unfold inR; omega, ?_⟩⟩
  · rw [if_pos h0] at q; exact q
  · rw [if_neg h0, show 0 - x = -x by omega] at q; exact q
/-- what stays while the letters are laid -/
def MV0 (h : AH) (y : Nat) (c0 c1 st : Nat → Int) : Prop := MdK h y ∧ ZR h y c0 c1 st ∧ ML h y c0 c1 ∧ GC c0 ∧ GC c1 ∧ GS st
theorem MV0.fr {h h' : AH} {a b y : Nat} {c0 c1 st : Nat → Int} (V : MV0 h y c0 c1 st) (F : Fr h h' a b) (ht : b ≤ y + 1 ∨ y + 7 ≤ a ∨ y + 2 ≤ a ∧ b ≤ y + 4) : MV0 h' y c0 c1 st := ⟨V.1.fr F, V.2.1.fr F (by omega), V.2.2.1.fr F (by omega), V.2.2.2⟩
theorem d_distance {zz : Nat → Nat} {y i j : Nat} {h : AH} {Q : Int → AH → Prop} {c0 c1 st : Nat → Int} (V : MV0 h y c0 c1 st) (hi : i < Nc c0) (hj : j < Nc c1) (q : Q (dsL c0 c1 st i j) h) : w_X7_distance zz y i j h Q := by
  obtain ⟨K, Z, ⟨l1, l2, l3, l4⟩, g0, g1, gs⟩ := V
  have h0 := g0.n
  have h1 := g1.n
  have e0 := (l3 i hi).1
  have e1 := (l4 j hj).1
  have lt0 := Lc_lt hi
  have lt1 := Lc_lt hj
  have g0 := gs.1
  have v1 := ab1_bd (x := (Lc c0 i : Int) % 16 - (Lc c1 j : Int) % 16) (n := 15) (by omega) (by omega)
  have v2 := ab1_bd (x := (Lc c0 i : Int) / 16 - (Lc c1 j : Int) / 16) (n := 4) (by omega) (by omega)
  have v3 : 0 ≤ st 0 * ab1 ((Lc c0 i : Int) / 16 - (Lc c1 j : Int) / 16) := Int.mul_nonneg (by omega) v2.1
  have v4 : st 0 * ab1 ((Lc c0 i : Int) / 16 - (Lc c1 j : Int) / 16) ≤ 9 * 4 := Int.mul_le_mul (by omega) v2.2 v2.1 (by omega)
  unfold w_X7_distance
  refine ⟨by rw [okA_of K.1], y + 5, K.2.2.2.2.2.2.2.1, by rw [okI_of K.2.2.1.2.2.2.2.1]; omega, ?_⟩
  rw [e0]
  intro a ea
  subst ea
  refine ⟨by rw [okA_of K.1], y + 5, K.2.2.2.2.2.2.2.1, by unfold inR; omega, by rw [okI_of K.2.2.1.2.2.2.2.1]; omega, ?_⟩
  rw [e1]
  intro b eb
  subst eb
  refine ⟨⟨by omega, by omega⟩, ⟨by omega, by omega⟩, by unfold inR; omega, d_size (by omega) ⟨by rw [okA_of K.1], d_of K Z (by omega) ⟨⟨by omega, by omega⟩, ⟨by omega, by omega⟩, by unfold inR; omega, d_size (by omega) ?_⟩⟩⟩
  exact ⟨by unfold inR; exact ⟨by have : st (0 : Int).toNat = st 0 := rfl; rw [this]; omega, by have : st (0 : Int).toNat = st 0 := rfl; rw [this]; omega⟩, by unfold inR; exact ⟨by have : st (0 : Int).toNat = st 0 := rfl; rw [this]; omega, by have : st (0 : Int).toNat = st 0 := rfl; rw [this]; omega⟩, q⟩
theorem d_areEqual {zz : Nat → Nat} {y i j : Nat} {h : AH} {Q : Int → AH → Prop} {c0 c1 st : Nat → Int} (V : MV0 h y c0 c1 st) (hi : i < Nc c0) (hj : j < Nc c1) (q : Q (if eqB c0 c1 i j = true then 1 else 0) h) : w_X7_areEqual zz y i j h Q := by
  obtain ⟨K, Z, ⟨l1, l2, l3, l4⟩, g0, g1, gs⟩ := V
  have h0 := g0.n
  have h1 := g1.n
  unfold w_X7_areEqual
  refine ⟨by rw [okA_of K.1], y + 6, K.2.2.2.2.2.2.2.2.1, by rw [okI_of K.2.2.1.2.2.2.2.2.1]; omega, by rw [okA_of K.1], y + 6, K.2.2.2.2.2.2.2.2.1, by unfold inR; omega, by rw [okI_of K.2.2.1.2.2.2.2.2.1]; omega, ?_⟩
  rw [(l3 i hi).2, (l4 j hj).2, jn_def]
  unfold eqB at q
  refine ⟨fun ne => ⟨.inl rfl, ?_⟩, fun e => ⟨.inr rfl, ?_⟩⟩
  · rw [if_neg (by rw [decide_eq_true_eq]; exact ne)] at q; exact q
  · rw [if_pos (decide_eq_true e)] at q; exact q
/-- where the letter number of a cell's letter leads -/
theorem Lc_at {c : Nat → Int} {k : Nat} (hk : k < 80) (hc : c k ≠ 32) : Lc c (cn c k) = k := cp_of hk hc
def LW (c0 c1 : Nat → Int) (v : Nat) : Nat → Int := if v = 0 then c0 else c1
def LL (h : AH) (y v : Nat) (c : Nat → Int) (k : Nat) : Prop := haI h (y + 4) (v : Int) = (cn c k : Int) ∧ ∀ i : Nat, i < cn c k → haI h (y + 5) ((40 : Int) * (v : Int) + (i : Int)) = (Lc c i : Int) ∧ haI h (y + 6) ((40 : Int) * (v : Int) + (i : Int)) = Ac c i ∧ haI h (y + 7) ((40 : Int) * (v : Int) + (i : Int)) = -1 ∧ haI h (y + 8) ((40 : Int) * (v : Int) + (i : Int)) = (if v = 0 then 4 else 5)
set_option maxHeartbeats 2000000 in
theorem d_layLetters {zz : Nat → Nat} {y : Nat} {h : AH} {Q : AH → Prop} {c0 c1 st : Nat → Int} (K : MdK h y) (Z : ZR h y c0 c1 st) (g0 : GC c0) (g1 : GC c1) (gs : GS st) (q : ∀ h' : AH, Fr h h' (y + 4) (y + 9) → MV0 h' y c0 c1 st → MP h' y c0 c1 pE → Q h') : w_X7_layLetters zz y h Q := by
  have K0 := K
  have z2 : ∀ v k : Nat, v < 2 → k < 80 → haI h (y + 1) ((80 : Int) * (v : Int) + (k : Int)) = LW c0 c1 v k := by
    intro v k hv hk
    unfold LW
    by_cases e : v = 0
    · subst e
      rw [if_pos rfl, show (80 : Int) * ((0 : Nat) : Int) + (k : Int) = (k : Int) by omega]; exact Z.t0 hk
    · obtain rfl : v = 1 := by omega
      rw [if_neg (by omega), show (80 : Int) * ((1 : Nat) : Int) + (k : Int) = (80 : Int) + (k : Int) by omega]; exact Z.t1 hk
  have gw : ∀ v, cn (LW c0 c1 v) 80 ≤ 40 := by
    intro v; unfold LW; split
    · exact g0.2
    · exact g1.2
  unfold w_X7_layLetters
  obtain ⟨I, hI⟩ : ∃ I : Nat → Int → AH → Prop, ∀ m x h', I m x h' ↔ ∃ v : Nat, v ≤ 2 ∧ m = 2 - v ∧ x = (v : Int) ∧ Fr h h' (y + 4) (y + 9) ∧ ∀ u : Nat, u < v → LL h' y u (LW c0 c1 u) 80 := ⟨_, fun _ _ _ => Iff.rfl⟩
  refine ⟨I, ⟨2, (hI _ _ _).mpr ⟨0, by omega, rfl, rfl, Fr.refl _ _ _, fun u hu => by omega⟩⟩, ?_⟩
  intro m x h' hi9
  obtain ⟨v, hv, rfl, rfl, F, L⟩ := (hI _ _ _).mp hi9
  have K1 := K.fr F
  obtain ⟨kt, kl, ⟨ka1, ka2, ka3, ka4, ka5, ka6, ka7, ka8, ka9, ka10, ka11, ka12, ka13, ka14, ka15, ka16⟩, ⟨kr1, kr2, kr3, kr4, kr5, kr6, kr7, kr8, kr9, kr10, kr11, kr12, kr13, kr14, kr15, kr16⟩⟩ := K1
  refine ⟨fun hc => ?_, fun hc => ?_⟩
  · obtain rfl : v = 2 := by omega
    have L0 := L 0 (by omega)
    have L1 := L 1 (by omega)
    have e0 : LW c0 c1 0 = c0 := rfl
    have e1 : LW c0 c1 1 = c1 := rfl
    rw [e0] at L0
    rw [e1] at L1
    have a0 : ∀ i : Nat, (40 : Int) * ((0 : Nat) : Int) + (i : Int) = (i : Int) := fun i => by omega
    have a1 : ∀ i : Nat, (40 : Int) * ((1 : Nat) : Int) + (i : Int) = (40 : Int) + (i : Int) := fun i => by omega
    obtain ⟨L0a, L0b⟩ := L0
    obtain ⟨L1a, L1b⟩ := L1
    simp only [a0] at L0b
    simp only [a1] at L1b
    refine q h' F ⟨K.fr F, Z.fr F (by omega), ⟨L0a, L1a, fun i hi => ⟨(L0b i hi).1, (L0b i hi).2.1⟩, fun j hj => ⟨(L1b j hj).1, (L1b j hj).2.1⟩⟩, g0, g1, gs⟩ ⟨fun i hi => ⟨(L0b i hi).2.2.1, (L0b i hi).2.2.2⟩, fun j hj => ⟨(L1b j hj).2.2.1, (L1b j hj).2.2.2⟩⟩
  · have hv2 : v < 2 := by omega
    refine ⟨by rw [okA_of kt], y + 4, kr4, by rw [okW_of ka4]; omega, ?_⟩
    intro g eg
    have Fg : Fr h' g (y + 4) (y + 9) := by rw [eg]; exact Fr.sa (by omega) (by omega)
    obtain ⟨J, hJ⟩ : ∃ J : Nat → Int → AH → Prop, ∀ m x g, J m x g ↔ ∃ k : Nat, k ≤ 80 ∧ m = 80 - k ∧ x = (k : Int) ∧ Fr h g (y + 4) (y + 9) ∧ (∀ u : Nat, u < v → LL g y u (LW c0 c1 u) 80) ∧ LL g y v (LW c0 c1 v) k := ⟨_, fun _ _ _ => Iff.rfl⟩
    refine ⟨J, ⟨80, (hJ _ _ _).mpr ⟨0, by omega, rfl, rfl, F.trans Fg, fun u hu => ?_, ?_, fun i hi => absurd hi (by unfold cn; omega)⟩⟩, ?_⟩
    · obtain ⟨La, Lb⟩ := L u hu
      refine ⟨?_, fun i hi => ?_⟩
      · rw [eg, haI_saI, if_pos rfl, u1_apply, if_neg (by omega)]; exact La
      · have := Lb i hi
        rw [eg, haI_saI, if_neg (by omega), haI_saI, if_neg (by omega), haI_saI, if_neg (by omega), haI_saI, if_neg (by omega)]; exact this
    · rw [eg, haI_saI, if_pos rfl, u1_apply, if_pos rfl]; rfl
    clear eg Fg L F kt kl ka1 ka2 ka3 ka4 ka5 ka6 ka7 ka8 ka9 ka10 ka11 ka12 ka13 ka14 ka15 ka16 kr1 kr2 kr3 kr4 kr5 kr6 kr7 kr8 kr9 kr10 kr11 kr12 kr13 kr14 kr15 kr16 hi9 g
    intro m2 x2 g hj9
    obtain ⟨k, hk, rfl, rfl, F, L, M, N⟩ := (hJ _ _ _).mp hj9
    refine ⟨fun hc2 => ?_, fun hc2 => ?_⟩
    · obtain rfl : k = 80 := by omega
      refine ⟨by unfold inR; omega, ?_⟩
      intro x3 e3
      refine ⟨2 - (v + 1), by omega, (hI _ _ _).mpr ⟨v + 1, by omega, rfl, by omega, F, fun u hu => ?_⟩⟩
      by_cases e : u = v
      · rw [e]; exact ⟨M, N⟩
      · exact L u (by omega)
    · have hk8 : k < 80 := by omega
      have Kg := K.fr F
      obtain ⟨kt, kl, ⟨ka1, ka2, ka3, ka4, ka5, ka6, ka7, ka8, ka9, ka10, ka11, ka12, ka13, ka14, ka15, ka16⟩, ⟨kr1, kr2, kr3, kr4, kr5, kr6, kr7, kr8, kr9, kr10, kr11, kr12, kr13, kr14, kr15, kr16⟩⟩ := Kg
      have zk : haI g (y + 1) ((80 : Int) * (v : Int) + (k : Int)) = LW c0 c1 v k := by rw [F.ai (by omega)]; exact z2 v k hv2 hk8
      have m1 := cn_mono (c := LW c0 c1 v) (show k + 1 ≤ 80 by omega)
      have m2 := cn_mono (c := LW c0 c1 v) (show k ≤ 80 by omega)
      have e1 := cn_s (c := LW c0 c1 v) (k := k)
      have g40 := gw v
      refine ⟨by rw [okA_of kt], y + 1, kr1, by unfold inR; omega, by unfold inR; omega, by rw [okI_of ka1]; omega, ?_⟩
      rw [zk, jn_def]
      refine ⟨fun hb => ⟨by unfold inR; omega, ?_⟩, fun hb => ?_⟩
      · intro x3 e3
        rw [if_pos hb] at e1
        exact ⟨80 - (k + 1), by omega, (hJ _ _ _).mpr ⟨k + 1, by omega, rfl, by omega, F, L, by rw [e1]; exact M, fun i hi => N i (by omega)⟩⟩
      · rw [if_neg hb] at e1
        have lk := Lc_at hk8 hb
        refine ⟨by unfold inR; omega, by rw [okA_of kt], y + 4, kr4, by rw [okI_of ka4]; omega, ?_⟩
        rw [M]
        refine ⟨by unfold inR; omega, ?_⟩
        intro x3 e3
        subst e3
        refine ⟨by rw [okA_of kt], y + 5, kr5, by rw [okW_of ka5]; omega, ?_⟩
        intro h5 e5
        have F5 : Fr g h5 (y + 4) (y + 9) := by rw [e5]; exact Fr.sa (by omega) (by omega)
        have K5 := (K.fr F).fr F5
        refine ⟨by rw [okA_of K5.1], y + 6, K5.2.2.2.2.2.2.2.2.1, by rw [okA_of K5.1], y + 1, K5.2.2.2.1, by unfold inR; omega, by unfold inR; omega, by rw [okI_of K5.2.2.1.1]; omega, ?_⟩
        have z5 : haI h5 (y + 1) ((80 : Int) * (v : Int) + (k : Int)) = LW c0 c1 v k := by rw [F5.ai (by omega)]; exact zk
        rw [z5]
        refine ⟨by rw [okW_of K5.2.2.1.2.2.2.2.2.1]; have := K5.2.1; omega, ?_⟩
        intro h6 e6
        have F6 : Fr h5 h6 (y + 4) (y + 9) := by rw [e6]; exact Fr.sa (by omega) (by omega)
        have K6 := K5.fr F6
        refine ⟨by rw [okA_of K6.1], y + 7, K6.2.2.2.2.2.2.2.2.2.1, by rw [okW_of K6.2.2.1.2.2.2.2.2.2.1]; have := K6.2.1; omega, ?_⟩
        intro h7 e7
        have F7 : Fr h6 h7 (y + 4) (y + 9) := by rw [e7]; exact Fr.sa (by omega) (by omega)
        have K7 := K6.fr F7
        refine ⟨by rw [okA_of K7.1], y + 8, K7.2.2.2.2.2.2.2.2.2.2.1, ?_⟩
        rw [jn_def]
        have fin : ∀ t : Int, t = (if v = 0 then 4 else 5) → okW h7 (y + 8) ((40 : Int) * (v : Int) + (cn (LW c0 c1 v) k : Int)) ∧ ∀ h95 : AH, h95 = saI h7 (y + 8) (u1 (haI h7 (y + 8)) ((40 : Int) * (v : Int) + (cn (LW c0 c1 v) k : Int)) t) → okA h95 y 7 ∧ ∃ b97 : Nat, hfR h95 y 6 = some b97 ∧ okI h95 b97 (v : Int) ∧ inR ((haI h95 b97 (v : Int)) + (1 : Int)) ∧ okW h95 b97 (v : Int) ∧ ∀ h105 : AH, h105 = saI h95 b97 (u1 (haI h95 b97) (v : Int) ((haI h95 b97 (v : Int)) + (1 : Int))) → inR ((k : Int) + 1) ∧ ∀ x2_106 : Int, x2_106 = ((k : Int) + 1) → ∃ m, m < 80 - k ∧ J m x2_106 h105 := by
          intro t et
          refine ⟨by rw [okW_of K7.2.2.1.2.2.2.2.2.2.2.1]; have := K7.2.1; omega, ?_⟩
          intro h8 e8
          have F8 : Fr h7 h8 (y + 4) (y + 9) := by rw [e8]; exact Fr.sa (by omega) (by omega)
          have K8 := K7.fr F8
          refine ⟨by rw [okA_of K8.1], y + 4, K8.2.2.2.2.2.2.1, by rw [okI_of K8.2.2.1.2.2.2.1]; omega, ?_⟩
          have M8 : haI h8 (y + 4) (v : Int) = (cn (LW c0 c1 v) k : Int) := by
            rw [e8, haI_saI, if_neg (by omega), e7, haI_saI, if_neg (by omega), e6, haI_saI, if_neg (by omega), e5, haI_saI, if_neg (by omega)]; exact M
          rw [M8]
          refine ⟨by unfold inR; omega, by rw [okW_of K8.2.2.1.2.2.2.1]; have := K8.2.1; omega, ?_⟩
          intro h9 e9
          refine ⟨by unfold inR; omega, ?_⟩
          intro x4 e4
          have F9 : Fr h8 h9 (y + 4) (y + 9) := by rw [e9]; exact Fr.sa (by omega) (by omega)
          have v5 : haI h9 (y + 5) = u1 (haI g (y + 5)) ((40 : Int) * (v : Int) + (cn (LW c0 c1 v) k : Int)) (k : Int) := by
            rw [e9, haI_saI, if_neg (by omega), e8, haI_saI, if_neg (by omega), e7, haI_saI, if_neg (by omega), e6, haI_saI, if_neg (by omega), e5, haI_saI, if_pos rfl]
          have v6 : haI h9 (y + 6) = u1 (haI g (y + 6)) ((40 : Int) * (v : Int) + (cn (LW c0 c1 v) k : Int)) (LW c0 c1 v k) := by
            rw [e9, haI_saI, if_neg (by omega), e8, haI_saI, if_neg (by omega), e7, haI_saI, if_neg (by omega), e6, haI_saI, if_pos rfl, e5, haI_saI, if_neg (by omega)]
          have v7 : haI h9 (y + 7) = u1 (haI g (y + 7)) ((40 : Int) * (v : Int) + (cn (LW c0 c1 v) k : Int)) (-1) := by
            rw [e9, haI_saI, if_neg (by omega), e8, haI_saI, if_neg (by omega), e7, haI_saI, if_pos rfl, e6, haI_saI, if_neg (by omega), e5, haI_saI, if_neg (by omega)]
          have v8 : haI h9 (y + 8) = u1 (haI g (y + 8)) ((40 : Int) * (v : Int) + (cn (LW c0 c1 v) k : Int)) t := by
            rw [e9, haI_saI, if_neg (by omega), e8, haI_saI, if_pos rfl, e7, haI_saI, if_neg (by omega), e6, haI_saI, if_neg (by omega), e5, haI_saI, if_neg (by omega)]
          have v4 : haI h9 (y + 4) = u1 (haI g (y + 4)) (v : Int) ((cn (LW c0 c1 v) k : Int) + 1) := by
            rw [e9, haI_saI, if_pos rfl, e8, haI_saI, if_neg (by omega), e7, haI_saI, if_neg (by omega), e6, haI_saI, if_neg (by omega), e5, haI_saI, if_neg (by omega)]
          refine ⟨80 - (k + 1), by omega, (hJ _ _ _).mpr ⟨k + 1, by omega, rfl, by omega, F.trans (F5.trans (F6.trans (F7.trans (F8.trans F9)))), fun u hu => ?_, ?_, fun i hi => ?_⟩⟩
          · obtain ⟨La, Lb⟩ := L u hu
            refine ⟨by rw [v4, u1_apply, if_neg (by omega)]; exact La, fun i hi => ?_⟩
            have := gw u
            rw [v5, v6, v7, v8, u1_apply, u1_apply, u1_apply, u1_apply, if_neg (by omega), if_neg (by omega), if_neg (by omega), if_neg (by omega)]
            exact Lb i hi
          · rw [v4, u1_apply, if_pos rfl, e1]; omega
          · rw [v5, v6, v7, v8, u1_apply, u1_apply, u1_apply, u1_apply]
            by_cases e : i = cn (LW c0 c1 v) k
            · subst e
              rw [if_pos rfl, if_pos rfl, if_pos rfl, if_pos rfl]
              show (k : Int) = (Lc (LW c0 c1 v) (cn (LW c0 c1 v) k) : Int) ∧ LW c0 c1 v k = LW c0 c1 v (Lc (LW c0 c1 v) (cn (LW c0 c1 v) k)) ∧ _
              rw [lk]
              exact ⟨rfl, rfl, rfl, et⟩
            · rw [if_neg (by omega), if_neg (by omega), if_neg (by omega), if_neg (by omega)]
              exact N i (by omega)
        refine ⟨fun hn => fin 5 (by rw [if_neg (by omega)]), fun hz => fin 4 (by rw [if_pos (by omega)])⟩
