/-! THE PURE LAYER, 42: new objects, three: TextMorph, the model -/
def d30 : D3 := (fun _ => 32, fun _ => 32, st0)
def D00 : DT := (d30, fun _ => d30, 0, fun _ => 0, 0)
theorem tr_a {g g' : AH} {x k c a : Nat} {v : Option Nat} (E : Ex (nOb (sfR g x k v) c) g' a) (ha : a = hn g) : ∀ q, q ≠ x → q < a → Ag g g' q := by
  intro q h1 h2
  have := E.ag h2
  unfold Ag at *
  rw [this.1, this.2.1, this.2.2.1, this.2.2.2]
  refine ⟨by rw [hkd_nOb, if_neg (by rw [hn_sfR]; omega)]; rfl, by rw [hfI_nOb, if_neg (by rw [hn_sfR]; omega)]; rfl, ?_, rfl⟩
  rw [hfR_nOb, if_neg (by rw [hn_sfR]; omega)]
  funext j
  rw [hfR_sfR, if_neg h1]
theorem tr_x {g g' : AH} {x k c a : Nat} {v : Option Nat} (E : Ex (nOb (sfR g x k v) c) g' a) (ha : a = hn g) (hx : x < a) : hkd g' x = hkd g x ∧ hlo g' = hlo g ∧ ∀ j, hfR g' x j = if j = k then v else hfR g x j := by
  have := E.ag hx
  refine ⟨by rw [this.1, hkd_nOb, if_neg (by rw [hn_sfR]; omega)]; rfl, E.1, fun j => ?_⟩
  rw [this.2.2.1, hfR_nOb, if_neg (by rw [hn_sfR]; omega), hfR_sfR, if_pos rfl]
theorem tr_e {g g' h : AH} {x k c a : Nat} {v : Option Nat} (E : Ex (nOb (sfR g x k v) c) g' a) (E0 : Ex h g x) (ha : a = hn g) (hx : x ≤ a) : Ex h g' x := (E0.trans (b := x) ((((Ex.refl g x).sr (Nat.le_refl _)).ob (by rw [hn_sfR]; omega)).trans E (by omega)) (by omega))
set_option maxHeartbeats 4000000 in
theorem n_object {zz : Nat → Nat} {x : Nat} {h : AH} {Q : AH → Prop} (Z : Zs h zz) (hk : hkd h x = (10, 0)) (lo : hlo h ≤ x) (hm : hn h = x + 1) (q : ∀ h' : AH, Ex h h' x → hn h' = x + 113 → CR h' zz x D00 → Q h') : w_X6_init zz x h Q := by
  unfold w_X6_init
  intro h5 e5
  rw [hm]
  have k5 : hkd h5 x = (10, 0) := by rw [e5, hkd_nOb, if_neg (by omega)]; exact hk
  have n5 : hn h5 = x + 2 := by rw [e5, hn_nOb]; omega
  have E5 : Ex h h5 x := by rw [e5]; exact (Ex.refl h x).ob (by omega)
  refine n_state (Z.ex E5 lo) (by rw [e5, hkd_nOb, if_pos (by omega)]) (by rw [E5.1]; omega) n5 (fun g1 G1 n1 S1 => ?_)
  have E1 : Ex h g1 x := E5.trans G1 (by omega)
  have k1 : hkd g1 x = (10, 0) := by rw [(G1.ag (by omega)).1]; exact k5
  have ok : ∀ g : AH, hkd g x = (10, 0) → hlo g = hlo h → okP g x 6 := fun g a b => by rw [okP_of a, b]; exact ⟨rfl, lo⟩
  refine ⟨ok _ k1 E1.1, fun h12 e12 h16 e16 => ?_⟩
  have n12 : hn h12 = x + 9 := by rw [e12, hn_sfR]; omega
  have k16 : hkd h16 x = (10, 0) := by rw [e16, hkd_nOb, if_neg (by omega), e12]; exact k1
  have r16 : hfR h16 x 0 = some (x + 1) := by rw [e16, hfR_nOb, if_neg (by omega), e12, hfR_sfR, if_pos rfl, if_pos rfl]
  rw [n12]
  refine ⟨by rw [okA_of k16], x + 1, r16, n_morph (s := x + 1) (by rw [e16, hkd_nOb, if_pos (by omega)]) ?_ (by rw [e16, hn_nOb]; omega) (fun g2 G2 n2 P2 V2 O2 => ?_)⟩
  · rw [e16, e12]; show hlo g1 ≤ _; rw [E1.1]; omega
  rw [e16, e12] at G2
  have A2 := tr_a G2 (by omega)
  have X2 := tr_x G2 (by omega) (by omega)
  have E2 : Ex h g2 x := tr_e G2 E1 (by omega) (by omega)
  have S2 := S1.ag X2.2.1 (fun q h1 h2 => A2 q (by omega) (by omega))
  have k2 : hkd g2 x = (10, 0) := X2.1.trans k1
  clear k16 r16 e16 e12 n12 h12 h16
  refine ⟨ok _ k2 E2.1, fun h27 e27 h31 e31 => ?_⟩
  have n27 : hn h27 = x + 31 := by rw [e27, hn_sfR]; omega
  rw [n27]
  have E31 : Ex h h31 x := by rw [e31, e27]; exact (E2.sr (Nat.le_refl _)).ob (by rw [hn_sfR]; omega)
  refine n_state (Z.ex E31 lo) (by rw [e31, hkd_nOb, if_pos (by omega)]) (by rw [E31.1]; omega) (by rw [e31, hn_nOb]; omega) (fun g3 G3 n3 T3 => ?_)
  rw [e31, e27] at G3
  have A3 := tr_a G3 (by omega)
  have X3 := tr_x G3 (by omega) (by omega)
  have E3 : Ex h g3 x := tr_e G3 E2 (by omega) (by omega)
  have S3 := S2.ag X3.2.1 (fun q h1 h2 => A3 q (by omega) (by omega))
  have P3 := P2.ag (fun q h1 h2 => A3 q (by omega) (by omega))
  have V3 := V2.ag (fun q h1 h2 => A3 q (by omega) (by omega))
  have O3 := O2.ag (fun q h1 h2 => A3 q (by omega) (by omega))
  have k3 : hkd g3 x = (10, 0) := X3.1.trans k2
  clear E31 e31 e27 n27 h27 h31
  refine ⟨ok _ k3 E3.1, fun h38 e38 h42 e42 => ?_⟩
  have n38 : hn h38 = x + 39 := by rw [e38, hn_sfR]; omega
  have k42 : hkd h42 x = (10, 0) := by rw [e42, hkd_nOb, if_neg (by omega), e38]; exact k3
  have r42 : hfR h42 x 2 = some (x + 31) := by rw [e42, hfR_nOb, if_neg (by omega), e38, hfR_sfR, if_pos rfl, if_pos rfl]
  rw [n38]
  refine ⟨by rw [okA_of k42], x + 31, r42, n_morph (s := x + 31) (by rw [e42, hkd_nOb, if_pos (by omega)]) ?_ (by rw [e42, hn_nOb]; omega) (fun g4 G4 n4 P4' V4' O4' => ?_)⟩
  · rw [e42, e38]; show hlo g3 ≤ _; rw [E3.1]; omega
  rw [e42, e38] at G4
  have A4 := tr_a G4 (by omega)
  have X4 := tr_x G4 (by omega) (by omega)
  have E4 : Ex h g4 x := tr_e G4 E3 (by omega) (by omega)
  have S4 := S3.ag X4.2.1 (fun q h1 h2 => A4 q (by omega) (by omega))
  have P4 := P3.ag (fun q h1 h2 => A4 q (by omega) (by omega))
  have V4 := V3.ag (fun q h1 h2 => A4 q (by omega) (by omega))
  have O4 := O3.ag (fun q h1 h2 => A4 q (by omega) (by omega))
  have T4 := T3.ag X4.2.1 (fun q h1 h2 => A4 q (by omega) (by omega))
  have k4 : hkd g4 x = (10, 0) := X4.1.trans k3
  clear k42 r42 e42 e38 n38 h38 h42
  refine ⟨ok _ k4 E4.1, fun h53 e53 h59 e59 => ?_⟩
  have n53 : hn h53 = x + 61 := by rw [e53, hn_sfR]; omega
  have k59 : hkd h59 x = (10, 0) := by rw [e59, hkd_nAR, if_neg (by omega), e53]; exact k4
  have E59 : Ex h h59 x := by rw [e59, e53]; exact (E4.sr (Nat.le_refl _)).are (by rw [hn_sfR]; omega)
  have n59 : hn h59 = x + 62 := by rw [e59, hn_nAR]; omega
  have A59 : ∀ q, q ≠ x → q < x + 61 → Ag g4 h59 q := by
    intro q h1 h2
    unfold Ag
    refine ⟨by rw [e59, hkd_nAR, if_neg (by omega), e53]; rfl, by rw [e59, e53]; rfl, ?_, by rw [e59, e53]; rfl⟩
    funext j
    rw [e59, hfR_nAR, e53, hfR_sfR, if_neg h1]
  have r59 : ∀ j, hfR h59 x j = if j = 3 then some (x + 39) else hfR g4 x j := fun j => by rw [e59, hfR_nAR, e53, hfR_sfR, if_pos rfl]
  have k61 : hkd h59 (x + 61) = (3, 6) := by rw [e59, hkd_nAR, if_pos (by omega)]
  clear e53 e59
  refine ⟨ok _ k59 E59.1, fun h62 e62 h66 e66 => ?_⟩
  have n62 : hn h62 = x + 62 := by rw [e62, hn_sfR]; exact n59
  rw [n62]
  refine n_buffer (by rw [e66, hkd_nOb, if_pos (by omega)]) ?_ (by rw [e66, hn_nOb]; omega) (fun g5 G5 n5' B5 b5 => ?_)
  · rw [e66, e62]; show hlo h59 ≤ _; rw [E59.1]; omega
  rw [e66, e62] at G5
  have A5' := tr_a G5 n59.symm
  have X5 := tr_x G5 n59.symm (by omega)
  have E5' : Ex h g5 x := tr_e G5 E59 n59.symm (by omega)
  have A5 : ∀ q, q ≠ x → q < x + 61 → Ag g4 g5 q := by
    intro q h1 h2
    have a := A59 q h1 h2
    have b := A5' q h1 (by omega)
    exact ⟨b.1.trans a.1, b.2.1.trans a.2.1, b.2.2.1.trans a.2.2.1, b.2.2.2.trans a.2.2.2⟩
  have l5 : hlo g5 = hlo g4 := by rw [E5'.1, E4.1]
  have S5 := S4.ag l5 (fun q h1 h2 => A5 q (by omega) (by omega))
  have P5 := P4.ag (fun q h1 h2 => A5 q (by omega) (by omega))
  have V5 := V4.ag (fun q h1 h2 => A5 q (by omega) (by omega))
  have O5 := O4.ag (fun q h1 h2 => A5 q (by omega) (by omega))
  have T5 := T4.ag l5 (fun q h1 h2 => A5 q (by omega) (by omega))
  have P5' := P4'.ag (fun q h1 h2 => A5 q (by omega) (by omega))
  have V5' := V4'.ag (fun q h1 h2 => A5 q (by omega) (by omega))
  have O5' := O4'.ag (fun q h1 h2 => A5 q (by omega) (by omega))
  have k5' : hkd g5 x = (10, 0) := X5.1.trans k59
  have ka5 : hkd g5 (x + 61) = (3, 6) := by rw [(A5' (x + 61) (by omega) (by omega)).1]; exact k61
  have rr : ∀ j, hfR g5 x j = if j = 4 then some (x + 61) else if j = 3 then some (x + 39) else if j = 2 then some (x + 31) else if j = 1 then some (x + 9) else if j = 0 then some (x + 1) else hfR g1 x j := by
    intro j
    rw [X5.2.2, n53, r59, X4.2.2, X3.2.2, X2.2.2]
  clear A59 r59 k59 E59 n59 k61 n62 A5' A5
  refine ⟨ok _ k5' E5'.1, fun h73 e73 => ⟨ok _ (by rw [e73]; exact k5') (by rw [e73]; exact E5'.1), fun h78 e78 => ⟨ok _ (by rw [e78, e73]; exact k5') (by rw [e78, e73]; exact E5'.1), .inr rfl, fun g eg => ?_⟩⟩⟩
  have Eg : Ex h g x := by rw [eg, e78, e73]; exact ((E5'.sr (Nat.le_refl _)).si (Nat.le_refl _)).si (Nat.le_refl _)
  have ng : hn g = x + 65 := by rw [eg, e78, e73]; exact n5'
  have lg : hlo g = hlo g5 := by rw [eg, e78, e73]; rfl
  have Agg : ∀ q, q ≠ x → Ag g5 g q := by
    intro q h1
    unfold Ag
    refine ⟨by rw [eg, e78, e73]; rfl, ?_, ?_, by rw [eg, e78, e73]; rfl⟩
    · funext j
      rw [eg, hfI_sfI, if_neg h1, e78, hfI_sfI, if_neg h1, e73]; rfl
    · funext j
      rw [eg, e78, e73]
      show hfR (sfR g5 x 5 _) q j = _
      rw [hfR_sfR, if_neg h1]
  have kg : hkd g x = (10, 0) := by rw [eg, e78, e73]; exact k5'
  have rg : ∀ j, hfR g x j = if j = 5 then some (x + 62) else hfR g5 x j := by
    intro j
    rw [eg, e78, e73]
    show hfR (sfR g5 x 5 _) x j = _
    rw [hfR_sfR, if_pos rfl]
  have ig6 : hfI g x 6 = 0 := by rw [eg, hfI_sfI, if_pos rfl, if_neg (by omega), e78, hfI_sfI, if_pos rfl, if_pos rfl]
  have ig7 : hfI g x 7 = 1 := by rw [eg, hfI_sfI, if_pos rfl, if_pos rfl]
  have Sg := S5.ag lg (fun q h1 h2 => Agg q (by omega))
  have Pg := P5.ag (fun q h1 h2 => Agg q (by omega))
  have Vg := V5.ag (fun q h1 h2 => Agg q (by omega))
  have Og := O5.ag (fun q h1 h2 => Agg q (by omega))
  have Tg := T5.ag lg (fun q h1 h2 => Agg q (by omega))
  have Pg' := P5'.ag (fun q h1 h2 => Agg q (by omega))
  have Vg' := V5'.ag (fun q h1 h2 => Agg q (by omega))
  have Og' := O5'.ag (fun q h1 h2 => Agg q (by omega))
  have Bg := B5.ag lg (fun q h1 h2 => Agg q (by omega))
  have bg : hfI g (x + 62) 2 = 0 := by rw [(Agg (x + 62) (by omega)).2.1]; exact b5
  have kag : hkd g (x + 61) = (3, 6) := by rw [(Agg (x + 61) (by omega)).1]; exact ka5
  have rga : ∀ j, hfR g x j = if j = 5 then some (x + 62) else if j = 4 then some (x + 61) else if j = 3 then some (x + 39) else if j = 2 then some (x + 31) else if j = 1 then some (x + 9) else if j = 0 then some (x + 1) else hfR g1 x j := fun j => by rw [rg, rr]
  clear Agg eg e78 e73 rg rr S5 P5 V5 O5 T5 P5' V5' O5' B5 b5 k5' ka5 G5 X5 E5' n5' G4 X4 E4 S4 P4 V4 O4 T4 k4 P4' V4' O4' A4 n4 G3 X3 E3 S3 P3 V3 O3 T3 k3 A3 n3 G2 X2 E2 S2 P2 V2 O2 k2 A2 n2 e66 e62
  have lgh : hlo g = hlo h := Eg.1
  obtain ⟨I, hI⟩ : ∃ I : Nat → Int → AH → Prop, ∀ m i h', I m i h' ↔ ∃ k : Nat, k ≤ 6 ∧ m = 6 - k ∧ i = (k : Int) ∧ Ex h h' x ∧ hn h' = x + 65 + 8 * k ∧ (∀ q, x ≤ q → q < x + 65 → Ag g h' q) ∧ ∀ j : Nat, j < k → St h' (x + 65 + 8 * j) (x + 65 + 8 * j + 2) (x + 65 + 8 * j + 5) (fun _ => 32) (fun _ => 32) st0 ∧ haR h' (x + 61) j = some (x + 65 + 8 * j) := ⟨_, fun _ _ _ => Iff.rfl⟩
  refine ⟨I, ⟨6, by omega, (hI _ _ _).mpr ⟨0, by omega, rfl, rfl, Eg, ng, fun q _ _ => ⟨rfl, rfl, rfl, rfl⟩, fun j hj => by omega⟩⟩, ?_⟩
  intro m i h' hi9
  obtain ⟨k, hk6, rfl, rfl, Eh, nh, Ah, Sh⟩ := (hI _ _ _).mp hi9
  have lh : hlo h' = hlo g := by rw [Eh.1, lgh]
  have kh : hkd h' x = (10, 0) := by rw [(Ah x (by omega) (by omega)).1]; exact kg
  have kah : hkd h' (x + 61) = (3, 6) := by rw [(Ah (x + 61) (by omega) (by omega)).1]; exact kag
  have rh : hfR h' x = hfR g x := (Ah x (by omega) (by omega)).2.2.1
  refine ⟨fun hc => ?_, fun hc => ⟨by rw [okA_of kh], x + 61, by rw [rh, rga]; rfl, fun h99 e99 => ?_⟩⟩
  · obtain rfl : k = 6 := by omega
    refine q h' Eh (by omega) ⟨?_, Z.ex Eh lo, ⟨x + 3, x + 6, Sg.ag lh (fun q h1 h2 => Ah q (by omega) (by omega))⟩, GD_0, ⟨?_, by show 0 ≤ 60; omega, fun k hk => absurd hk (Nat.not_lt_zero k)⟩, ?_, by show 0 ≤ 6; omega, ⟨fun i => i, fun i hi => ⟨hi, (Sh i hi).2⟩, fun i j _ _ e => e, fun i hi => absurd hi (Nat.not_lt_zero i)⟩, .inl ?_⟩
    · have Tt := Tg.ag lh (fun q h1 h2 => Ah q (by omega) (by omega))
      refine ⟨kh, by rw [rh, rga]; rfl, by rw [rh, rga]; rfl, by rw [rh, rga]; rfl, by rw [rh, rga]; rfl, by rw [rh, rga]; rfl, by rw [rh, rga]; rfl, kah, by rw [Eh.1]; exact lo, Bg.ag lh (fun q h1 h2 => Ah q (by omega) (by omega)), ⟨Tt.1, Tt.2.1.1, Tt.2.2.1.1⟩, ⟨Pg.ag (fun q h1 h2 => Ah q (by omega) (by omega)), Vg.ag (fun q h1 h2 => Ah q (by omega) (by omega)), Og.ag (fun q h1 h2 => Ah q (by omega) (by omega))⟩, ⟨Pg'.ag (fun q h1 h2 => Ah q (by omega) (by omega)), Vg'.ag (fun q h1 h2 => Ah q (by omega) (by omega)), Og'.ag (fun q h1 h2 => Ah q (by omega) (by omega))⟩, fun i hi => ⟨(Sh i hi).1.1, (Sh i hi).1.2.1.1, (Sh i hi).1.2.2.1.1⟩⟩
    · rw [(Ah (x + 62) (by omega) (by omega)).2.1]; exact bg
    · rw [(Ah x (by omega) (by omega)).2.1]; exact ig6
    · rw [(Ah x (by omega) (by omega)).2.1]; exact ig7
  · rw [nh]
    have E99 : Ex h h99 x := by rw [e99]; exact Eh.ob (by omega)
    refine n_state (Z.ex E99 lo) (by rw [e99, hkd_nOb, if_pos (by omega)]) (by rw [E99.1]; omega) (by rw [e99, hn_nOb]; omega) (fun g2 G2 n2 S2 => ?_)
    have A2 : ∀ q, q < x + 65 + 8 * k → Ag h' g2 q := by
      intro q h1
      have a := G2.ag h1
      unfold Ag at *
      rw [a.1, a.2.1, a.2.2.1, a.2.2.2, e99]
      exact ⟨by rw [hkd_nOb, if_neg (by omega)], by rw [hfI_nOb, if_neg (by omega)], by rw [hfR_nOb, if_neg (by omega)], rfl⟩
    have lo2 : hlo g2 = hlo h := by rw [G2.1, E99.1]
    have k2a : hkd g2 (x + 61) = (3, 6) := by rw [(A2 _ (by omega)).1]; exact kah
    have r2 : haR g2 (x + 61) = haR h' (x + 61) := by
      rw [(G2.2.2 (x + 61) (by omega)).2.2.2.2.2.1, e99]; rfl
    refine ⟨by rw [okU_of k2a]; omega, by rw [okA_of S2.1.1], fun g3 e3 => ⟨by unfold inR; omega, fun x4 e4 => ⟨6 - (k + 1), by omega, (hI _ _ _).mpr ⟨k + 1, by omega, rfl, by omega, ?_, ?_, fun q h1 h2 => ?_, fun j hj => ⟨?_, ?_⟩⟩⟩⟩⟩
    · rw [e3]; exact (E99.trans G2 (by omega)).sar (by omega)
    · rw [e3]; show hn g2 = _; omega
    · have a := Ah q h1 h2
      have b := A2 q (by omega)
      rw [e3]
      exact ⟨b.1.trans a.1, b.2.1.trans a.2.1, b.2.2.1.trans a.2.2.1, b.2.2.2.trans a.2.2.2⟩
    · rw [e3]
      by_cases e : j = k
      · rw [e]; exact S2.ag rfl (fun q _ _ => ⟨rfl, rfl, rfl, rfl⟩)
      · exact ((Sh j (by omega)).1.ag (h' := g2) (by rw [lo2, Eh.1]) (fun q h1 h2 => A2 q (by omega))).ag rfl (fun q _ _ => ⟨rfl, rfl, rfl, rfl⟩)
    · rw [e3, haR_saR, if_pos rfl, r2, u1_apply]
      by_cases e : j = k
      · rw [if_pos (by omega), e]
      · rw [if_neg (by omega)]; exact (Sh j (by omega)).2
