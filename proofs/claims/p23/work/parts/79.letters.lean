/-! SECOND LAW, 10: letters and ways as they are told -/
section LWY
variable {zz : Nat → Nat} {x F k : Nat} {v : Int} {g : AH} {Q : Int → AH → Prop} {D : DT} {c0 c1 st : Nat → Int}
theorem lt0 (C : CR g zz x D) (hD : D.1 = (c0, c1, st)) (hk : k < Nc c0) (hv : 0 ≤ v ∧ v < 6) (q : ∀ g' : AH, Ga g g' x (x + 113) → CR g' zz x D → Q (let0 c0 c1 st k v) g') : w_X6_letter zz x (0 : Int) (k : Int) v g Q (fun _ _ => False) := by
  have e0 : cOf D 0 = c0 := by unfold cOf; rw [if_pos rfl, hD]
  refine c_letter C (fun _ _ _ g' G' C' => ?_) (fun hno _ => hno ⟨.inl rfl, by omega, by rw [e0]; omega⟩) (fun _ hno _ => hno hv)
  have e : letP D 0 ((k : Int)).toNat v = let0 c0 c1 st k v := by unfold letP; rw [if_pos rfl, hD]; rfl
  rw [e]; exact q g' G' C'
theorem lt1 (C : CR g zz x D) (hD : D.1 = (c0, c1, st)) (hk : k < Nc c1) (hv : 0 ≤ v ∧ v < 6) (q : ∀ g' : AH, Ga g g' x (x + 113) → CR g' zz x D → Q (let1 c0 c1 st k v) g') : w_X6_letter zz x (1 : Int) (k : Int) v g Q (fun _ _ => False) := by
  have e0 : cOf D 1 = c1 := by unfold cOf; rw [if_neg (by omega), hD]
  refine c_letter C (fun _ _ _ g' G' C' => ?_) (fun hno _ => hno ⟨.inr rfl, by omega, by rw [e0]; omega⟩) (fun _ hno _ => hno hv)
  have e : letP D 1 ((k : Int)).toNat v = let1 c0 c1 st k v := by unfold letP; rw [if_neg (by omega), hD]; rfl
  rw [e]; exact q g' G' C'
theorem wy0 (C : CR g zz x D) (hD : D.1 = (c0, c1, st)) (hF : isFF c0 c1 st F) (hk : k < Nc c0) (hv : 0 ≤ v ∧ v < 3) (q : ∀ g' : AH, Ga g g' x (x + 113) → CR g' zz x D → Q (wayA c0 c1 st F k v) g') : w_X6_way zz x (k : Int) v g Q (fun _ _ => False) := by
  have e0 : D.1.1 = c0 := by rw [hD]
  have e1 : D.1.2.1 = c1 := by rw [hD]
  have e2 : D.1.2.2 = st := by rw [hD]
  refine c_way C (fun _ _ F' g' hF' G' C' => ?_) (fun hno _ => hno ⟨by omega, by rw [e0]; omega⟩) (fun _ hno _ => hno hv)
  rw [e0, e1, e2] at hF' ⊢
  rw [isFF_u hF' hF, toN]
  exact q g' G' C'
theorem ct0 (C : CR g zz x D) (hD : D.1 = (c0, c1, st)) (hF : isFF c0 c1 st F) (hv : 0 ≤ v ∧ v < 12) (q : ∀ g' : AH, Ga g g' x (x + 113) → CR g' zz x D → Q (numA c0 c1 st F v) g') : w_X6_count zz x v g Q (fun _ _ => False) := by
  have e0 : D.1.1 = c0 := by rw [hD]
  have e1 : D.1.2.1 = c1 := by rw [hD]
  have e2 : D.1.2.2 = st := by rw [hD]
  refine c_count C (fun _ F' g' hF' G' C' => ?_) (fun hno _ => hno ⟨by omega, by omega⟩)
  rw [e0, e1, e2] at hF' ⊢
  rw [isFF_u hF' hF, if_neg (by omega)]
  exact q g' G' C'
end LWY
/-- when a piece is where it stays -/
def arT (c0 c1 st : Nat → Int) (F : Nat) : Nat → Int := fun i => if kfA c0 c1 st i = 4 then gonA c0 c1 st i else arrA c0 c1 st F i
set_option maxHeartbeats 2000000 in
theorem l_letters {zz : Nat → Nat} {x p F : Nat} {h : AH} {Q : Int → AH → Prop} {D : DT} {c0 c1 st : Nat → Int} (C : CR h zz x D) (hD : D.1 = (c0, c1, st)) (hF : isFF c0 c1 st F) (K : LK h (x + 113) c0 c1 st) (hp : x + 117 ≤ p) (P : PaR h p (Nc c0) (prA c0 c1 st).1 (prA c0 c1 st).2.2.1) (H : PaR h (p + 2) (Nc c0) (mfA c0 c1 st F).2.1 (mfA c0 c1 st F).2.2.1) (A : PoR h (p + 3) (Nc c0) (arT c0 c1 st F)) (q : ∀ h' : AH, Ga h h' x (x + 113) → CR h' zz x D → Q 1 h') : w_L_letters zz x (x + 113) (x + 113 + 1) (x + 113 + 2) (x + 113 + 3) p (p + 2) (p + 3) h Q := by
  obtain ⟨n8, m8⟩ := K.2.2.2.2.1
  have G := K.2.2.2.2.2.2.2
  have X : ∀ g : AH, CR g zz x D → okA g x 6 := fun g Cg => by rw [okA_of Cg.1.1]
  have KK : ∀ g, Ga h g x (x + 113) → LK g (x + 113) c0 c1 st := fun g Z => K.ga Z (by omega)
  have PP : ∀ g, Ga h g x (x + 113) → PaR g p (Nc c0) (prA c0 c1 st).1 (prA c0 c1 st).2.2.1 := fun g Z => P.ga Z (by omega)
  have HH : ∀ g, Ga h g x (x + 113) → PaR g (p + 2) (Nc c0) (mfA c0 c1 st F).2.1 (mfA c0 c1 st F).2.2.1 := fun g Z => H.ga Z (by omega)
  have AA : ∀ g, Ga h g x (x + 113) → PoR g (p + 3) (Nc c0) (arT c0 c1 st F) := fun g Z => A.ga Z (by omega)
  unfold w_L_letters
  obtain ⟨I, hI⟩ : ∃ I : Nat → Int → AH → Prop, ∀ m a g, I m a g ↔ ∃ k : Nat, k ≤ Nc c0 ∧ m = Nc c0 - k ∧ a = (k : Int) ∧ Ga h g x (x + 113) ∧ CR g zz x D := ⟨_, fun _ _ _ => Iff.rfl⟩
  refine ⟨I, ⟨_, (hI _ _ _).mpr ⟨0, Nat.zero_le _, rfl, rfl, Ga.refl _ _ _, C⟩⟩, ?_⟩
  intro m a g hi9
  obtain ⟨k, hk, rfl, rfl, Gg, Cg⟩ := (hI _ _ _).mp hi9
  rw [okI_of (KK g Gg).2.1.1, (KK g Gg).2.1.2.1]
  refine ⟨⟨by omega, by omega⟩, fun hc => ?_, fun hc => ?_⟩
  · obtain ⟨J, hJ⟩ : ∃ J : Nat → Int → AH → Prop, ∀ m a g, J m a g ↔ ∃ j : Nat, j ≤ Nc c1 ∧ m = Nc c1 - j ∧ a = (j : Int) ∧ Ga h g x (x + 113) ∧ CR g zz x D := ⟨_, fun _ _ _ => Iff.rfl⟩
    refine ⟨J, ⟨_, (hJ _ _ _).mpr ⟨0, Nat.zero_le _, rfl, rfl, Gg, Cg⟩⟩, ?_⟩
    intro m a g hj9
    obtain ⟨j, hj, rfl, rfl, Gg, Cg⟩ := (hJ _ _ _).mp hj9
    rw [okI_of (KK g Gg).2.1.1, (KK g Gg).2.1.2.2]
    refine ⟨⟨by omega, by omega⟩, fun hc => ⟨.inr rfl, q g Gg Cg⟩, fun hc => ⟨X g Cg, ?_⟩⟩
    have hjn : j < Nc c1 := by omega
    have lj := Lc_lt hjn
    refine lt1 Cg hD hjn (by omega) (fun g1 Z1 C1 => ?_)
    have G1 := Gg.trans Z1
    rw [okI_of (KK g1 G1).1.2.1, ((KK g1 G1).1.2.2 j hjn).1]
    refine ⟨by unfold inR; omega, ⟨by omega, by omega⟩, ⟨by omega, by omega⟩, ?_⟩
    refine jn_in (fun K387 hK387 => ?_)
    have v0 : let1 c0 c1 st j 0 = (Lc c1 j : Int) / 16 := rfl
    have v1 : let1 c0 c1 st j 1 = (Lc c1 j : Int) % 16 := rfl
    have v2 : let1 c0 c1 st j 2 = Ac c1 j := rfl
    have v3 : let1 c0 c1 st j 3 = psA c0 c1 st j := rfl
    have v4 : let1 c0 c1 st j 4 = ksA c0 c1 st j := rfl
    have v5 : let1 c0 c1 st j 5 = if psA c0 c1 st j = -1 then 0 else dsL c0 c1 st (psA c0 c1 st j).toNat j := rfl
    refine ⟨fun hne => absurd v0 hne, fun _ => ⟨X g1 C1, lt1 C1 hD hjn (by omega) (fun g2 Z2 C2 => ?_)⟩⟩
    have G2 := G1.trans Z2
    rw [okI_of (KK g2 G2).1.2.1, ((KK g2 G2).1.2.2 j hjn).1]
    refine ⟨by unfold inR; omega, ⟨by omega, by omega⟩, ⟨by omega, by omega⟩, fun hne => absurd v1 hne, fun _ => ⟨X g2 C2, lt1 C2 hD hjn (by omega) (fun g3 Z3 C3 => ?_)⟩⟩
    have G3 := G2.trans Z3
    rw [okI_of (KK g3 G3).1.2.1, ((KK g3 G3).1.2.2 j hjn).2]
    refine ⟨by unfold inR; omega, by unfold inR; omega, ⟨by omega, by omega⟩, fun _ => ?_, fun hne => absurd v2 hne⟩
    refine l_taken (KK g3 G3).2.1.1 (KK g3 G3).2.1.2.1 (PP g3 G3) pw_A n8 hjn ?_
    refine jn_in (fun K437 hK437 => ?_)
    have nxt : ∀ g4, Ga h g4 x (x + 113) → CR g4 zz x D → K437 g4 := by
      intro g4 G4 C4
      rw [hK437]
      exact ⟨by unfold inR; omega, fun u hu => ⟨_, by omega, (hJ _ _ _).mpr ⟨j + 1, by omega, rfl, by omega, G4, C4⟩⟩⟩
    refine ⟨fun _ => nxt g3 G3 C3, fun h0 => ?_⟩
    have hps : psA c0 c1 st j = -1 := by
      by_cases e : (prA c0 c1 st).2.1 j = -1
      · exact e
      · rw [if_neg e] at h0; omega
    refine ⟨X g3 C3, lt1 C3 hD hjn (by omega) (fun g4 Z4 C4 => ?_)⟩
    refine jn_in (fun K435 hK435 => ?_)
    refine ⟨fun hne => absurd (v3.trans hps) hne, fun _ => ⟨X g4 C4, lt1 C4 hD hjn (by omega) (fun g5 Z5 C5 => ?_)⟩⟩
    refine ⟨fun hne => absurd (v4.trans ((ks5 hjn).mpr hps)) hne, fun _ => ⟨X g5 C5, lt1 C5 hD hjn (by omega) (fun g6 Z6 C6 => ?_)⟩⟩
    exact ⟨fun _ => nxt g6 (((G3.trans Z4).trans Z5).trans Z6) C6, fun hne => absurd (v5.trans (if_pos hps)) hne⟩
  · have hkn : k < Nc c0 := by omega
    have lk := Lc_lt hkn
    rw [okI_of (PP g Gg).1]
    refine ⟨by unfold inR; omega, ⟨by omega, by omega⟩, fun x9 ex9 => ?_⟩
    rw [((PP g Gg).2.2 k hkn).1] at ex9
    have ex9 : x9 = pfA c0 c1 st k := ex9
    refine jn_in (fun K74 hK74 => ?_)
    have v0 : let0 c0 c1 st k 0 = (Lc c0 k : Int) / 16 := rfl
    have v1 : let0 c0 c1 st k 1 = (Lc c0 k : Int) % 16 := rfl
    have v2 : let0 c0 c1 st k 2 = Ac c0 k := rfl
    have v3 : let0 c0 c1 st k 3 = pfA c0 c1 st k := rfl
    have v4 : let0 c0 c1 st k 4 = kfA c0 c1 st k := rfl
    have v5 : let0 c0 c1 st k 5 = disA c0 c1 st k := rfl
    have w0 : wayA c0 c1 st F k 0 = stpA c0 c1 st k := rfl
    have w1 : wayA c0 c1 st F k 1 = (mfA c0 c1 st F).2.2.1 k := rfl
    have w2 : wayA c0 c1 st F k 2 = arT c0 c1 st F k := rfl
    have go : K74 (stpA c0 c1 st k) g := by
      rw [hK74]
      simp only
      refine ⟨X g Cg, lt0 Cg hD hkn (by omega) (fun g1 Z1 C1 => ?_)⟩
      have G1 := Gg.trans Z1
      rw [okI_of (KK g1 G1).1.1.1, ((KK g1 G1).1.1.2 k hkn).1]
      refine ⟨by unfold inR; omega, ⟨by omega, by omega⟩, ⟨by omega, by omega⟩, ?_⟩
      refine jn_in (fun K199 hK199 => ?_)
      refine ⟨fun hne => absurd v0 hne, fun _ => ⟨X g1 C1, lt0 C1 hD hkn (by omega) (fun g2 Z2 C2 => ?_)⟩⟩
      have G2 := G1.trans Z2
      rw [okI_of (KK g2 G2).1.1.1, ((KK g2 G2).1.1.2 k hkn).1]
      refine ⟨by unfold inR; omega, ⟨by omega, by omega⟩, ⟨by omega, by omega⟩, fun hne => absurd v1 hne, fun _ => ⟨X g2 C2, lt0 C2 hD hkn (by omega) (fun g3 Z3 C3 => ?_)⟩⟩
      have G3 := G2.trans Z3
      rw [okI_of (KK g3 G3).1.1.1, ((KK g3 G3).1.1.2 k hkn).2]
      refine ⟨by unfold inR; omega, by unfold inR; omega, ⟨by omega, by omega⟩, fun hne => absurd v2 hne, fun _ => ⟨X g3 C3, lt0 C3 hD hkn (by omega) (fun g4 Z4 C4 => ?_)⟩⟩
      have G4 := G3.trans Z4
      refine ⟨fun hne => absurd (v3.trans ex9.symm) hne, fun _ => ⟨X g4 C4, lt0 C4 hD hkn (by omega) (fun g5 Z5 C5 => ?_)⟩⟩
      have G5 := G4.trans Z5
      rw [okI_of (PP g5 G5).1, ((PP g5 G5).2.2 k hkn).2]
      refine ⟨by unfold inR; omega, by unfold inR; omega, ⟨by omega, by omega⟩, fun hne => absurd v4 hne, fun _ => ⟨X g5 C5, lt0 C5 hD hkn (by omega) (fun g6 Z6 C6 => ?_)⟩⟩
      have G6 := G5.trans Z6
      refine jn_in (fun K196 hK196 => ?_)
      have go2 : K196 (disA c0 c1 st k) g6 := by
        rw [hK196]
        simp only
        refine ⟨fun _ => ?_, fun hne => absurd v5 hne⟩
        refine jn_in (fun K263 hK263 => ?_)
        have way : ∀ g7, Ga h g7 x (x + 113) → CR g7 zz x D → K263 g7 := by
          intro g7 G7 C7
          rw [hK263]
          refine ⟨X g7 C7, wy0 C7 hD hF hkn (by omega) (fun g8 Z8 C8 => ?_)⟩
          have G8 := G7.trans Z8
          refine jn_in (fun K309 hK309 => ?_)
          refine ⟨fun hne => absurd w0 hne, fun _ => ⟨X g8 C8, wy0 C8 hD hF hkn (by omega) (fun g9 Z9 C9 => ?_)⟩⟩
          have G9 := G8.trans Z9
          rw [okI_of (HH g9 G9).1, ((HH g9 G9).2.2 k hkn).2]
          refine ⟨by unfold inR; omega, by unfold inR; omega, ⟨by omega, by omega⟩, fun hne => absurd w1 hne, fun _ => ⟨X g9 C9, wy0 C9 hD hF hkn (by omega) (fun ga Za Ca => ?_)⟩⟩
          have Ga' := G9.trans Za
          rw [okI_of (AA ga Ga').1, (AA ga Ga').2.2 k hkn]
          exact ⟨⟨by omega, by omega⟩, fun _ => ⟨by unfold inR; omega, fun u hu => ⟨_, by omega, (hI _ _ _).mpr ⟨k + 1, by omega, rfl, by omega, Ga', Ca⟩⟩⟩, fun hne => absurd w2 hne⟩
        refine ⟨fun _ => way g6 G6 C6, fun hge => ⟨X g6 C6, ?_⟩⟩
        rcases pf_cases (c1 := c1) (st := st) hkn with h4 | ⟨j, j1, j2, j3, j4, -, -⟩
        · rw [ex9, h4.1] at hge; omega
        have xj : x9 = (j : Int) := by rw [ex9, j2]
        rw [xj]
        have u3 : let1 c0 c1 st j 3 = psA c0 c1 st j := rfl
        have u4 : let1 c0 c1 st j 4 = ksA c0 c1 st j := rfl
        have u5 : let1 c0 c1 st j 5 = if psA c0 c1 st j = -1 then 0 else dsL c0 c1 st (psA c0 c1 st j).toNat j := rfl
        refine lt1 C6 hD j1 (by omega) (fun g7 Z7 C7 => ?_)
        have G7 := G6.trans Z7
        refine jn_in (fun K261 hK261 => ?_)
        refine ⟨fun hne => absurd (u3.trans j3) hne, fun _ => ⟨X g7 C7, lt1 C7 hD j1 (by omega) (fun g8 Z8 C8 => ?_)⟩⟩
        have G8 := G7.trans Z8
        rw [okI_of (PP g8 G8).1, ((PP g8 G8).2.2 k hkn).2]
        refine ⟨by unfold inR; omega, by unfold inR; omega, ⟨by omega, by omega⟩, fun hne => absurd (u4.trans j4.symm) hne, fun _ => ⟨X g8 C8, lt1 C8 hD j1 (by omega) (fun g9 Z9 C9 => ?_)⟩⟩
        have G9 := G8.trans Z9
        refine l_far (KK g9 G9) hkn j1 ⟨fun _ => way g9 G9 C9, fun hne => absurd ?_ hne⟩
        rw [u5, if_neg (by omega), j3, toN]
      refine ⟨fun hge => ?_, fun hlt => ?_⟩
      · rcases pf_cases (c1 := c1) (st := st) hkn with h4 | ⟨j, j1, j2, -⟩
        · rw [ex9, h4.1] at hge; omega
        have xj : x9 = (j : Int) := by rw [ex9, j2]
        have dj : disA c0 c1 st k = dsL c0 c1 st k j := by unfold disA; rw [if_neg (by omega), j2, toN]
        rw [xj]
        refine l_far (KK g6 G6) hkn j1 ?_
        rw [← dj]; exact go2
      · rcases pf_cases (c1 := c1) (st := st) hkn with h4 | ⟨j, j1, j2, -⟩
        · have dj : disA c0 c1 st k = 0 := by unfold disA; rw [if_pos h4.1]
          rw [← dj]; exact go2
        · rw [ex9, j2] at hlt; omega
    refine ⟨fun hge => ?_, fun hlt => ?_⟩
    · rcases pf_cases (c1 := c1) (st := st) hkn with h4 | ⟨j, j1, j2, -⟩
      · rw [ex9, h4.1] at hge; omega
      have xj : x9 = (j : Int) := by rw [ex9, j2]
      have lj := Lc_lt j1
      have sj : stpA c0 c1 st k = ab1 ((Lc c0 k : Int) % 16 - (Lc c1 j : Int) % 16) + ab1 ((Lc c0 k : Int) / 16 - (Lc c1 j : Int) / 16) := by unfold stpA; rw [if_neg (by omega), j2, toN]
      have b1 := ab1_bd (x := (Lc c0 k : Int) % 16 - (Lc c1 j : Int) % 16) (n := 15) (by omega) (by omega)
      have b2 := ab1_bd (x := (Lc c0 k : Int) / 16 - (Lc c1 j : Int) / 16) (n := 4) (by omega) (by omega)
      rw [xj, okI_of (KK g Gg).1.1.1, okI_of (KK g Gg).1.2.1, ((KK g Gg).1.1.2 k hkn).1, ((KK g Gg).1.2.2 j j1).1]
      refine ⟨by unfold inR; omega, ⟨by omega, by omega⟩, ⟨by omega, by omega⟩, by unfold inR; omega, ⟨by omega, by omega⟩, ⟨by omega, by omega⟩, by unfold inR; omega, l_abs (by omega) ?_⟩
      rw [okI_of (KK g Gg).1.1.1, okI_of (KK g Gg).1.2.1, ((KK g Gg).1.1.2 k hkn).1, ((KK g Gg).1.2.2 j j1).1]
      refine ⟨by unfold inR; omega, ⟨by omega, by omega⟩, ⟨by omega, by omega⟩, by unfold inR; omega, ⟨by omega, by omega⟩, ⟨by omega, by omega⟩, by unfold inR; omega, l_abs (by omega) ⟨by unfold inR; omega, ?_⟩⟩
      rw [← sj]; exact go
    · rcases pf_cases (c1 := c1) (st := st) hkn with h4 | ⟨j, j1, j2, -⟩
      · have sj : stpA c0 c1 st k = 0 := by unfold stpA; rw [if_pos h4.1]
        rw [← sj]; exact go
      · rw [ex9, j2] at hlt; omega
