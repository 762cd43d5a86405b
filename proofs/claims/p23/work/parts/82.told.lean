/-! SECOND LAW, 13: all that is told -/
theorem toN1 {j : Nat} : ((j + 1 : Nat) : Int) - 1 = (j : Int) := by omega
set_option maxHeartbeats 4000000 in
theorem l_told {zz : Nat → Nat} {x : Nat} {xx : Int} {h : AH} {Q : Int → AH → Prop} {D : DT} {c0 c1 st : Nat → Int} (C : CR h zz x D) (hD : D.1 = (c0, c1, st)) (K : LK h (x + 113) c0 c1 st) (hh : x + 117 ≤ hn h) (hx : 0 ≤ xx ∧ xx ≤ 900000000) (q : ∀ h' : AH, Gn h h' x (x + 113) → CR h' zz x D → LK h' (x + 113) c0 c1 st → Q 1 h') : w_L_told zz x xx (x + 113) (x + 113 + 1) (x + 113 + 2) (x + 113 + 3) h Q := by
  obtain ⟨n8, m8⟩ := K.2.2.2.2.1
  have G := K.2.2.2.2.2.2.2
  obtain ⟨F, hF⟩ := isFF_ex (c0 := c0) (c1 := c1) G
  have F190 := hF.2
  have g6 := G.2.2.2.2.2.2.1
  have g7 := G.2.2.2.2.2.2.2
  obtain ⟨p, hp⟩ : ∃ p, p = hn h := ⟨_, rfl⟩
  have lo := C.1.2.2.2.2.2.2.2.2.1
  have V8 := cK_le (f := kfA c0 c1 st) (n := Nc c0) (v := 4)
  have A8 := cK_le (f := ksA c0 c1 st) (n := Nc c1) (v := 5)
  have nfr : nFr c0 c1 st F = 1 + sti c0 c1 st + (F : Int) + (cK (ksA c0 c1 st) (Nc c1) 5 : Int) + st 7 := rfl
  have stiv : sti c0 c1 st = st 6 + (cK (kfA c0 c1 st) (Nc c0) 4 : Int) := rfl
  unfold w_L_told
  intro g1 e1 x6 ex6 g2 e2 x7 ex7 g3 e3 x8 ex8 g4 e4 x9 ex9
  have h6 : x6 = p := by rw [ex6, hp]
  have h7 : x7 = p + 1 := by rw [ex7, e1, hn_nAI, hp]
  have h8 : x8 = p + 1 + 1 := by rw [ex8, e2, hn_nAI, e1, hn_nAI, hp]
  have h9 : x9 = p + 1 + 1 + 1 := by rw [ex9, e3, hn_nAI, e2, hn_nAI, e1, hn_nAI, hp]
  have gn4 : hn g4 = p + 4 := by rw [e4, hn_nAI, e3, hn_nAI, e2, hn_nAI, e1, hn_nAI, hp]
  have N4 : Gn h g4 x (x + 113) := by rw [e4, e3, e2, e1]; exact ((((Gn.refl h _ _).ai).ai).ai).ai
  have N4' : Gn h g4 (x + 113) (x + 113) := by rw [e4, e3, e2, e1]; exact ((((Gn.refl h _ _).ai).ai).ai).ai
  have k6 : hkd g4 p = (1, 16) := by rw [e4, hkd_nAI, ← ex9, h9, if_neg (by omega), e3, hkd_nAI, ← ex8, h8, if_neg (by omega), e2, hkd_nAI, ← ex7, h7, if_neg (by omega), e1, hkd_nAI, ← ex6, h6, if_pos rfl]
  have k7 : hkd g4 (p + 1) = (1, 8) := by rw [e4, hkd_nAI, ← ex9, h9, if_neg (by omega), e3, hkd_nAI, ← ex8, h8, if_neg (by omega), e2, hkd_nAI, ← ex7, h7, if_pos rfl]
  have k8 : hkd g4 (p + 2) = (1, 16) := by rw [e4, hkd_nAI, ← ex9, h9, if_neg (by omega), e3, hkd_nAI, ← ex8, h8, if_pos rfl]
  have k9 : hkd g4 (p + 3) = (1, 8) := by rw [e4, hkd_nAI, ← ex9, h9, if_pos rfl]
  have z8 : haI g4 (p + 2) = fun _ => 0 := by rw [e4, haI_nAI, ← ex9, h9, if_neg (by omega), e3, haI_nAI, ← ex8, h8, if_pos rfl]
  have z9 : haI g4 (p + 3) = fun _ => 0 := by rw [e4, haI_nAI, ← ex9, h9, if_pos rfl]
  have h6' := h6.symm
  have h7' := h7.symm
  have h8' := h8.symm
  have h9' := h9.symm
  clear h6 h7 h8 h9
  subst h6'
  subst h7'
  subst h8'
  subst h9'
  clear ex6 ex7 ex8 ex9 e1 e2 e3 e4 g1 g2 g3
  have C4 : CR g4 zz x D := C.gn N4' (Nat.le_refl _) (by omega)
  have K4 : LK g4 (x + 113) c0 c1 st := K.gn N4' (by omega) (by omega)
  have lo4 : hlo g4 ≤ x := by rw [N4.1]; exact lo
  refine l_pairs K4 k6 (by omega) (by omega) (fun g5 G5 n5 P5 => ?_)
  have C5 : CR g5 zz x D := C4.gn G5 (by omega) (by omega)
  have K5 : LK g5 (x + 113) c0 c1 st := K4.gn G5 (by omega) (by omega)
  have kd5 : ∀ r, r < p + 4 → hkd g5 r = hkd g4 r := fun r hr => (G5.2.2 r (by omega)).1
  have ai5 : ∀ r, r < p + 4 → p + 1 ≤ r → haI g5 r = haI g4 r := fun r hr h2 => ((G5.2.2 r (by omega)).2 (by omega)).2.2.2.1
  have lo5 : hlo g5 ≤ x := by rw [G5.1]; exact lo4
  have N5 : Gn h g5 x (x + 113) := ⟨G5.1.trans N4.1, by have := N4.2.1; omega, fun r hr => by
    obtain ⟨a, b⟩ := N4.2.2 r hr
    obtain ⟨c, d⟩ := G5.2.2 r (by omega)
    refine ⟨c.trans a, fun hq => ?_⟩
    obtain ⟨x1, x2, x3, x4, x5, x6⟩ := b hq
    obtain ⟨y1, y2, y3, y4, y5, y6⟩ := d (by omega)
    exact ⟨y1.trans x1, y2.trans x2, y3.trans x3, y4.trans x4, y5.trans x5, y6.trans x6⟩⟩
  -- what is so all along
  obtain ⟨W, hW⟩ : ∃ W : AH → Prop, ∀ g, W g ↔ Gn h g x (x + 113) ∧ CR g zz x D ∧ LK g (x + 113) c0 c1 st ∧ PaR g p (Nc c0) (prA c0 c1 st).1 (prA c0 c1 st).2.2.1 := ⟨_, fun _ => Iff.rfl⟩
  have W5 : W g5 := (hW _).mpr ⟨N5, C5, K5, P5⟩
  have Wfr : ∀ {g g' : AH} {u v : Nat}, W g → Fr g g' u v → p + 1 ≤ u → W g' := by
    intro g g' u v w f hu
    obtain ⟨w1, w2, w3, w4⟩ := (hW _).mp w
    exact (hW _).mpr ⟨w1.old f (by omega), w2.out f (by omega), w3.fr f (by omega), w4.fr f (by omega)⟩
  have Wga : ∀ {g g' : AH}, W g → Ga g g' x (x + 113) → CR g' zz x D → W g' := by
    intro g g' w f c
    obtain ⟨w1, w2, w3, w4⟩ := (hW _).mp w
    exact (hW _).mpr ⟨w1.trans (f.gn (Nat.le_refl _) (Nat.le_refl _)), c, w3.ga f (by omega), w4.ga f (by omega)⟩
  have R6 : PaR g5 (p + 2) (Nc c0) (fun _ => 0) (fun _ => 0) := ⟨by rw [kd5 _ (by omega)]; exact k8, by omega, fun i hi => by rw [ai5 _ (by omega) (by omega), z8]; exact ⟨rfl, rfl⟩⟩
  have A6 : PoR g5 (p + 3) (Nc c0) (fun _ => 0) := ⟨by rw [kd5 _ (by omega)]; exact k9, by omega, fun i hi => by rw [ai5 _ (by omega) (by omega), z9]⟩
  have kp5 : hkd g5 (p + 1) = (1, 8) := by rw [kd5 _ (by omega)]; exact k7
  -- a frame
  have frm : ∀ (g : AH) (f x2 come mv held : Int) (Q3 : Int → AH → Prop), W g → PoR g (p + 1) (Nc c0) (fun i => plA c0 c1 st F i f) → (0 ≤ f ∧ f < nFr c0 c1 st F) → (0 ≤ x2 ∧ x2 ≤ 1000000000) → (∀ i, i < Nc c0 → kfA c0 c1 st i = 3 → (mv ≠ 0 ↔ 0 < mvd c0 c1 st F f)) → (∀ l, l < Nc c1 → ksA c0 c1 st l = 5 → ((cK (ksA c0 c1 st) l 5 : Int) < come ↔ theA c0 c1 st F l ≤ f)) → held = fraA c0 c1 st F f 2 → (∀ g' : AH, Ga g g' x (x + 113) → W g' → Q3 1 g') → w_L_frame zz x f x2 come mv held (x + 113) (x + 113 + 1) (x + 113 + 2) p (p + 1) g Q3 := by
    intro g f x2 come mv held Q3 w R h1 h2 h3 h4 h5 q3
    obtain ⟨w1, w2, w3, w4⟩ := (hW _).mp w
    exact l_frame w2 hD hF w3 (by omega) w4 R h1 h2 h3 h4 h5 (fun g' Z' C' => q3 g' Z' (Wga w Z' C'))
  -- places at first
  obtain ⟨I, hI⟩ : ∃ I : Nat → Int → AH → Prop, ∀ m a g, I m a g ↔ ∃ k : Nat, k ≤ Nc c0 ∧ m = Nc c0 - k ∧ a = (k : Int) ∧ W g ∧ Fr g5 g (p + 1) (p + 2) ∧ PoR g (p + 1) k (s0M c0) := ⟨_, fun _ _ _ => Iff.rfl⟩
  refine ⟨I, ⟨_, by omega, (hI _ _ _).mpr ⟨0, Nat.zero_le _, rfl, rfl, W5, Fr.refl _ _ _, kp5, by omega, fun i hi => absurd hi (Nat.not_lt_zero _)⟩⟩, ?_⟩
  intro m a g hi9
  obtain ⟨k, hk, rfl, rfl, Wg, Fg, Rg⟩ := (hI _ _ _).mp hi9
  obtain ⟨-, Cg, Kg, Pg⟩ := (hW _).mp Wg
  rw [okI_of Kg.2.1.1, Kg.2.1.2.1]
  refine ⟨⟨by omega, by omega⟩, fun hc => ?_, fun hc => ?_⟩
  rotate_left
  · have hkn : k < Nc c0 := by omega
    rw [okI_of Kg.1.1.1, okW_of Rg.1, (Kg.1.1.2 k hkn).1]
    refine ⟨by unfold inR; omega, ⟨by omega, by omega⟩, ⟨by omega, by omega, Rg.2.1⟩, fun g6 e6 => ⟨by unfold inR; omega, fun u hu => ⟨_, by omega, (hI _ _ _).mpr ⟨k + 1, by omega, rfl, by omega, ?_, ?_, ?_⟩⟩⟩⟩
    · rw [e6]; exact Wfr Wg (Fr.sa (a := p + 1) (b := p + 2) (by omega) (by omega)) (by omega)
    · rw [e6]; exact Fg.tsa (by omega) (by omega)
    · refine ⟨by rw [e6]; exact Rg.1, by rw [e6]; exact Rg.2.1, fun i hi => ?_⟩
      rw [e6, haI_saI, if_pos rfl, u1_apply]
      by_cases ei : i = k
      · rw [ei, if_pos rfl]
      · rw [if_neg (by omega)]; exact Rg.2.2 i (by omega)
  have hkn : k = Nc c0 := by omega
  subst hkn
  have R7 := R6.fr Fg (by omega)
  have A7 := A6.fr Fg (by omega)
  clear hi9 hI I A6 R6 kp5 ai5 kd5 W5 N5 K5 C5 P5 G5 K4 C4 N4 N4' k6 k7 k8 k9 z8 z9 n5
  -- still frames
  obtain ⟨I, hI⟩ : ∃ I : Nat → Int → AH → Prop, ∀ m a g', I m a g' ↔ (0 ≤ a ∧ a ≤ st 6 + 1) ∧ m = (st 6 + 1 - a).toNat ∧ W g' ∧ Ga g g' x (x + 113) := ⟨_, fun _ _ _ => Iff.rfl⟩
  refine ⟨I, ⟨_, by omega, (hI _ _ _).mpr ⟨⟨by omega, by omega⟩, rfl, Wg, Ga.refl _ _ _⟩⟩, ?_⟩
  intro m f ga hi9
  obtain ⟨hf, rfl, Wa, Ga'⟩ := (hI _ _ _).mp hi9
  obtain ⟨-, Ca, Ka, Pa⟩ := (hW _).mp Wa
  have s6 : haI ga (x + 113 + 3) (6 : Int) = st 6 := Ka.2.2.1.2 6 (by omega)
  have Ra := Rg.ga Ga' (by omega)
  have Ha := R7.ga Ga' (by omega)
  have Aa := A7.ga Ga' (by omega)
  rw [okI_of Ka.2.2.1.1, s6]
  refine ⟨⟨by omega, by omega⟩, fun hc => ?_, fun hc => ?_⟩
  rotate_left
  · refine jn_in (fun K106 hK106 => ?_)
    have nxt : ∀ g', W g' → Ga g g' x (x + 113) → K106 g' := by
      intro g' w z
      rw [hK106]
      exact ⟨by unfold inR; omega, fun u hu => ⟨_, by omega, (hI _ _ _).mpr ⟨⟨by omega, by omega⟩, rfl, w, z⟩⟩⟩
    refine ⟨fun _ => nxt ga Wa Ga', fun _ => ?_⟩
    refine frm ga f xx 0 0 0 _ Wa ⟨Ra.1, Ra.2.1, fun i hi => by rw [Ra.2.2 i hi]; exact (pl_still hi (by omega)).symm⟩ ⟨by omega, by omega⟩ ⟨by omega, by omega⟩ (fun i hi h3 => ?_) (fun l hl h5 => ?_) ?_ (fun g' z w => ⟨fun _ => nxt g' w (Ga'.trans z), fun h0 => absurd h0 (by omega)⟩)
    · rw [mvd_lo (by omega)]; constructor <;> intro hh <;> omega
    · have := cK_s (f := ksA c0 c1 st) (n := l) (v := 5)
      rw [if_pos h5] at this
      unfold theA
      constructor <;> intro hh <;> omega
    · exact (hin_no (.inl (by omega))).symm
  have hfe : f = st 6 + 1 := by omega
  subst hfe
  rw [okI_of Ka.2.1.1, Ka.2.1.2.1]
  refine ⟨⟨by omega, by omega⟩, by unfold inR; omega, fun y hy => ?_⟩
  clear hI I hi9
  clear hf hc Ga'
  -- pieces vanish
  obtain ⟨I, hI⟩ : ∃ I : Nat → Int → Int → AH → Prop, ∀ m f y g', I m f y g' ↔ ∃ j : Nat, j ≤ Nc c0 ∧ m = j + 1 ∧ y = (j : Int) - 1 ∧ f = st 6 + 1 + ((cK (kfA c0 c1 st) (Nc c0) 4 : Int) - (cK (kfA c0 c1 st) j 4 : Int)) ∧ W g' ∧ PoR g' (p + 1) (Nc c0) (fun k => if kfA c0 c1 st k = 4 ∧ j ≤ k then -1 else s0M c0 k) ∧ PaR g' (p + 2) (Nc c0) (fun _ => 0) (fun _ => 0) ∧ PoR g' (p + 3) (Nc c0) (fun k => if kfA c0 c1 st k = 4 ∧ j ≤ k then gonA c0 c1 st k else 0) := ⟨_, fun _ _ _ _ => Iff.rfl⟩
  refine ⟨I, ⟨_, by omega, (hI _ _ _ _).mpr ⟨Nc c0, Nat.le_refl _, rfl, hy, by omega, Wa, ⟨Ra.1, Ra.2.1, fun i hi => by rw [Ra.2.2 i hi]; exact (if_neg (fun hh => absurd hh.2 (by omega))).symm⟩, Ha, ⟨Aa.1, Aa.2.1, fun i hi => by rw [Aa.2.2 i hi]; exact (if_neg (fun hh => absurd hh.2 (by omega))).symm⟩⟩⟩, ?_⟩
  clear hy y Ra Ha Aa Wa Ca Ka Pa s6
  intro m f y gb hi9
  obtain ⟨j, hj, rfl, rfl, hf, Wb, Rb, Hb, Ab⟩ := (hI _ _ _ _).mp hi9
  obtain ⟨-, Cb, Kb, Pb⟩ := (hW _).mp Wb
  have Vj := cK_mono (f := kfA c0 c1 st) (v := 4) hj
  refine ⟨fun hc => ?_, fun hc => ?_⟩
  rotate_left
  · obtain ⟨i, rfl⟩ : ∃ i, j = i + 1 := ⟨j - 1, by omega⟩
    have hin : i < Nc c0 := by omega
    rw [toN1, okI_of Pb.1, (Pb.2.2 i hin).1]
    refine ⟨by unfold inR; omega, ⟨by omega, by omega⟩, ?_⟩
    refine jn_in (fun K177 hK177 => ?_)
    have nxt : ∀ (f' : Int) (g' : AH), f' = st 6 + 1 + ((cK (kfA c0 c1 st) (Nc c0) 4 : Int) - (cK (kfA c0 c1 st) i 4 : Int)) → W g' → PoR g' (p + 1) (Nc c0) (fun k => if kfA c0 c1 st k = 4 ∧ i ≤ k then -1 else s0M c0 k) → PaR g' (p + 2) (Nc c0) (fun _ => 0) (fun _ => 0) → PoR g' (p + 3) (Nc c0) (fun k => if kfA c0 c1 st k = 4 ∧ i ≤ k then gonA c0 c1 st k else 0) → K177 f' g' := by
      intro f' g' h1 h2 h3 h4 h5
      rw [hK177]
      exact ⟨by unfold inR; omega, fun u hu => ⟨_, by omega, (hI _ _ _ _).mpr ⟨i, by omega, rfl, by omega, h1, h2, h3, h4, h5⟩⟩⟩
    have cs := cK_s (f := kfA c0 c1 st) (n := i) (v := 4)
    have fr4 := pw_free (pw_A (c0 := c0) (c1 := c1) (st := st)) hin
    have pfc := pf_cases (c1 := c1) (st := st) hin
    refine ⟨fun hneg => ?_, fun hpos => ?_⟩
    · have h4 : kfA c0 c1 st i = 4 := by
        rcases pfc with h | ⟨j2, -, h2, -⟩
        · exact h.2
        · have h2 : (prA c0 c1 st).1 i = (j2 : Int) := h2
          omega
      rw [if_pos h4] at cs
      have hgf : gonA c0 c1 st i = f := by unfold gonA; omega
      have ext : ∀ k, (kfA c0 c1 st k = 4 ∧ i ≤ k) ↔ (k = i ∨ kfA c0 c1 st k = 4 ∧ i + 1 ≤ k) := by
        intro k
        constructor
        · intro hh
          by_cases ek : k = i
          · exact .inl ek
          · exact .inr ⟨hh.1, by omega⟩
        · rintro (hh | hh)
          · rw [hh]; exact ⟨h4, Nat.le_refl _⟩
          · exact ⟨hh.1, by omega⟩
      rw [okW_of Rb.1]
      refine ⟨⟨by omega, by omega, Rb.2.1⟩, fun gc ec => ?_⟩
      rw [okW_of (show hkd gc (p + 1 + 1 + 1) = (1, 8) by rw [ec]; exact Ab.1)]
      refine ⟨⟨by omega, by omega, by rw [ec]; exact Ab.2.1⟩, fun gd ed => ⟨by unfold inR; omega, fun f' hf' => ?_⟩⟩
      have Fd : Fr gb gd (p + 1) (p + 4) := by rw [ed, ec]; exact (Fr.sa (by omega) (by omega)).tsa (by omega) (by omega)
      have Wd := Wfr Wb Fd (Nat.le_refl _)
      have Rd : PoR gd (p + 1) (Nc c0) (fun k => if kfA c0 c1 st k = 4 ∧ i ≤ k then -1 else s0M c0 k) := by
        refine ⟨by rw [ed, ec]; exact Rb.1, by rw [ed, ec]; exact Rb.2.1, fun k hk2 => ?_⟩
        have rb : haI gb (p + 1) (k : Int) = if kfA c0 c1 st k = 4 ∧ i + 1 ≤ k then -1 else s0M c0 k := Rb.2.2 k hk2
        show haI gd (p + 1) (k : Int) = if kfA c0 c1 st k = 4 ∧ i ≤ k then -1 else s0M c0 k
        rw [ed, haI_saI, if_neg (by omega), ec, haI_saI, if_pos rfl, u1_apply]
        by_cases ek : k = i
        · rw [if_pos (by omega), if_pos ((ext k).mpr (.inl ek))]
        · rw [if_neg (by omega), rb]
          by_cases e5 : kfA c0 c1 st k = 4 ∧ i + 1 ≤ k
          · rw [if_pos e5, if_pos ((ext k).mpr (.inr e5))]
          · rw [if_neg e5, if_neg (fun hh => ((ext k).mp hh).elim ek e5)]
      have Ad : PoR gd (p + 3) (Nc c0) (fun k => if kfA c0 c1 st k = 4 ∧ i ≤ k then gonA c0 c1 st k else 0) := by
        refine ⟨by rw [ed, ec]; exact Ab.1, by rw [ed, ec]; exact Ab.2.1, fun k hk2 => ?_⟩
        have rb : haI gb (p + 3) (k : Int) = if kfA c0 c1 st k = 4 ∧ i + 1 ≤ k then gonA c0 c1 st k else 0 := Ab.2.2 k hk2
        show haI gd (p + 3) (k : Int) = if kfA c0 c1 st k = 4 ∧ i ≤ k then gonA c0 c1 st k else 0
        rw [ed, haI_saI, if_pos rfl, u1_apply]
        by_cases ek : k = i
        · rw [if_pos (by omega), if_pos ((ext k).mpr (.inl ek)), ek, hgf]
        · rw [if_neg (by omega), ec, haI_saI, if_neg (by omega), rb]
          by_cases e5 : kfA c0 c1 st k = 4 ∧ i + 1 ≤ k
          · rw [if_pos e5, if_pos ((ext k).mpr (.inr e5))]
          · rw [if_neg e5, if_neg (fun hh => ((ext k).mp hh).elim ek e5)]
      have Hd : PaR gd (p + 2) (Nc c0) (fun _ => 0) (fun _ => 0) := Hb.cong (by rw [ed, ec]; rfl) ⟨by rw [ed, ec]; rfl, by rw [ed, haI_saI, if_neg (by omega), ec, haI_saI, if_neg (by omega)]⟩
      refine frm gd f xx 0 0 0 _ Wd ⟨Rd.1, Rd.2.1, fun k hk2 => by rw [Rd.2.2 k hk2, ← hgf]; exact (pl_van h4).symm⟩ ⟨by omega, by omega⟩ ⟨by omega, by omega⟩ (fun k hk2 h3 => ?_) (fun l hl h5 => ?_) ?_ (fun g' z w => ⟨fun _ => nxt _ g' (by omega) w (Rd.ga z (by omega)) (Hd.ga z (by omega)) (Ad.ga z (by omega)), fun h0 => absurd h0 (by omega)⟩)
      · rw [mvd_lo (by omega)]; constructor <;> intro hh <;> omega
      · have := cK_s (f := ksA c0 c1 st) (n := l) (v := 5)
        rw [if_pos h5] at this
        unfold theA
        constructor <;> intro hh <;> omega
      · exact (hin_no (.inl (by omega))).symm
    · have h4 : ¬ kfA c0 c1 st i = 4 := fun h4 => by
        have h1 := fr4.mpr h4
        omega
      rw [if_neg h4] at cs
      have ext : ∀ k, (kfA c0 c1 st k = 4 ∧ i ≤ k) ↔ (kfA c0 c1 st k = 4 ∧ i + 1 ≤ k) := by
        intro k
        constructor
        · intro hh
          refine ⟨hh.1, ?_⟩
          by_cases ek : k = i
          · rw [ek] at hh; exact absurd hh.1 h4
          · omega
        · intro hh; exact ⟨hh.1, by omega⟩
      refine nxt f gb (by omega) Wb ⟨Rb.1, Rb.2.1, fun k hk2 => ?_⟩ Hb ⟨Ab.1, Ab.2.1, fun k hk2 => ?_⟩
      · rw [Rb.2.2 k hk2]; simp only [ext]
      · rw [Ab.2.2 k hk2]; simp only [ext]
  have hj0 : j = 0 := by omega
  subst hj0
  have hf1 : f = sti c0 c1 st + 1 := by
    have : cK (kfA c0 c1 st) 0 4 = 0 := rfl
    omega
  subst hf1
  clear hI I hi9 hf hc Vj hj
  -- moving
  obtain ⟨I, hI⟩ : ∃ I : Nat → Int → Int → AH → Prop, ∀ m f y g', I m f y g' ↔ ∃ t : Nat, t ≤ F ∧ m = F - t ∧ y = (t : Int) ∧ f = sti c0 c1 st + 1 + (t : Int) ∧ W g' ∧ PoR g' (p + 1) (Nc c0) (poS (glM c0 c1 st) (mfA c0 c1 st t).1) ∧ PaR g' (p + 2) (Nc c0) (mfA c0 c1 st t).2.1 (mfA c0 c1 st t).2.2.1 ∧ hkd g' (p + 3) = (1, 8) ∧ hlo g' ≤ p + 3 ∧ ∀ k : Nat, k < Nc c0 → (kfA c0 c1 st k = 4 → haI g' (p + 3) (k : Int) = gonA c0 c1 st k) ∧ (kfA c0 c1 st k ≠ 4 → (mfA c0 c1 st t).1 k = glM c0 c1 st k → haI g' (p + 3) (k : Int) = if (mfA c0 c1 st t).2.2.2.1 k = 0 then 0 else sti c0 c1 st + (mfA c0 c1 st t).2.2.2.1 k) := ⟨_, fun _ _ _ _ => Iff.rfl⟩
  refine ⟨I, ⟨_, by omega, (hI _ _ _ _).mpr ⟨0, Nat.zero_le _, rfl, rfl, by omega, Wb, ⟨Rb.1, Rb.2.1, fun k hk2 => ?_⟩, Hb, Ab.1, Ab.2.1, fun k hk2 => ⟨fun h4 => ?_, fun h4 _ => ?_⟩⟩⟩, ?_⟩
  · rw [Rb.2.2 k hk2]
    show (if kfA c0 c1 st k = 4 ∧ 0 ≤ k then -1 else s0M c0 k) = _
    unfold poS
    by_cases e4 : kfA c0 c1 st k = 4
    · rw [if_pos ⟨e4, Nat.zero_le _⟩, if_pos ((gl_4 hk2).mpr e4)]
    · rw [if_neg (fun hh => e4 hh.1), if_neg (fun hh => e4 ((gl_4 hk2).mp hh))]; rfl
  · exact (Ab.2.2 k hk2).trans (if_pos ⟨h4, Nat.zero_le _⟩)
  · rw [if_pos (show (mfA c0 c1 st 0).2.2.2.1 k = 0 from rfl)]
    exact (Ab.2.2 k hk2).trans (if_neg (fun hh => h4 hh.1))
  clear Rb Hb Ab Wb Cb Kb Pb
  intro m f y gb hi9
  obtain ⟨t, ht, rfl, rfl, rfl, Wb, Rb, Hb, ka, la, Ab⟩ := (hI _ _ _ _).mp hi9
  obtain ⟨-, Cb, Kb, Pb⟩ := (hW _).mp Wb
  have lt := isFF_lt hF ht
  refine l_goes Kb Pb pw_A Rb ?_
  refine jn_in (fun K215 hK215 => ?_)
  have move : t < F → K215 gb := by
    intro htF
    rw [hK215]
    simp only
    obtain ⟨J, hJ⟩ : ∃ J : Nat → Int → AH → Prop, ∀ m a g', J m a g' ↔ ∃ i : Nat, i ≤ Nc c0 ∧ m = Nc c0 - i ∧ a = (i : Int) ∧ Fr gb g' (p + 3) (p + 4) ∧ ∀ k : Nat, k < Nc c0 → haI g' (p + 3) (k : Int) = if k < i ∧ kfA c0 c1 st k ≠ 4 ∧ (mfA c0 c1 st t).1 k ≠ glM c0 c1 st k then sti c0 c1 st + 1 + (t : Int) else haI gb (p + 3) (k : Int) := ⟨_, fun _ _ _ => Iff.rfl⟩
    refine ⟨J, ⟨_, by omega, (hJ _ _ _).mpr ⟨0, Nat.zero_le _, rfl, rfl, Fr.refl _ _ _, fun k _ => by rw [if_neg (by omega)]⟩⟩, ?_⟩
    intro m2 a2 gc hj9
    obtain ⟨i, hi, rfl, rfl, Fc, Ac'⟩ := (hJ _ _ _).mp hj9
    have Wc := Wfr Wb Fc (by omega)
    obtain ⟨-, Cc, Kc, Pc⟩ := (hW _).mp Wc
    have Rc := Rb.fr Fc (by omega)
    have Hc := Hb.fr Fc (by omega)
    rw [okI_of Kc.2.1.1, Kc.2.1.2.1]
    refine ⟨⟨by omega, by omega⟩, fun hc => ?_, fun hc => ?_⟩
    · have hin : i = Nc c0 := by omega
      subst hin
      have Sl : ∀ k, k < Nc c0 → 0 ≤ s0M c0 k ∧ s0M c0 k < 80 := fun k hk => by
        have := Lc_lt hk
        show 0 ≤ (Lc c0 k : Int) ∧ (Lc c0 k : Int) < 80
        omega
      refine l_move (s0 := s0M c0) Kc Pc pw_A (by omega) (by omega) Sl Rc Hc (fun gd Fd Rd Hd => ?_)
      have Wd := Wfr Wc Fd (Nat.le_refl _)
      refine ⟨by unfold inR; omega, ?_⟩
      have ef : sti c0 c1 st + 1 + (t : Int) = sti c0 c1 st + ((t + 1 : Nat) : Int) := by omega
      refine frm gd _ _ 0 1 _ _ Wd ⟨Rd.1, Rd.2.1, fun k hk2 => by rw [Rd.2.2 k hk2, ef]; exact (pl_mov hk2 (by omega)).symm⟩ ⟨by omega, by omega⟩ ⟨by omega, by omega⟩ (fun k hk2 h3 => ?_) (fun l hl h5 => ?_) ?_ (fun g' z w => ⟨fun _ => ?_, fun h0 => absurd h0 (by omega)⟩)
      · rw [ef, mvd_at (by omega)]; constructor <;> intro hh <;> omega
      · have := cK_s (f := ksA c0 c1 st) (n := l) (v := 5)
        rw [if_pos h5] at this
        unfold theA
        constructor <;> intro hh <;> omega
      · show _ = hin c0 c1 st F (sti c0 c1 st + 1 + (t : Int) - sti c0 c1 st)
        unfold hin
        rw [if_pos (by omega), show (sti c0 c1 st + 1 + (t : Int) - sti c0 c1 st).toNat = t + 1 by omega]
      · refine ⟨by unfold inR; omega, fun u1' hu1 => ⟨by unfold inR; omega, fun u2 hu2 => ⟨_, ?_, (hI _ _ _ _).mpr ⟨t + 1, by omega, rfl, by omega, by omega, w, Rd.ga z (by omega), Hd.ga z (by omega), ?_, ?_, fun k hk2 => ?_⟩⟩⟩⟩
        · omega
        · rw [z.1, Fd.kd, Fc.kd]; exact ka
        · rw [z.2.1, Fd.lo, Fc.lo]; exact la
        · have ek : haI g' (p + 3) (k : Int) = haI gc (p + 3) (k : Int) := by
            rw [(z.2.2.2 (p + 3) (by omega)).2.2.2.1, Fd.ai (by omega)]
          rw [ek, Ac' k hk2]
          have old := Ab k hk2
          refine ⟨fun h4 => ?_, fun h4 hgo => ?_⟩
          · rw [if_neg (fun hh => hh.2.1 h4)]; exact old.1 h4
          · have hg1 : glM c0 c1 st k ≠ -1 := fun hh => h4 ((gl_4 hk2).mp hh)
            have ms := mf_step (t := t) hk2 hg1
            by_cases at0 : (mfA c0 c1 st t).1 k = glM c0 c1 st k
            · rw [if_neg (fun hh => hh.2.2 at0), old.2 h4 at0, (ms.1 at0).2]
            · rw [if_pos ⟨hk2, h4, at0⟩, ms.2 at0 hgo, if_neg (by omega)]; omega
    · have hin : i < Nc c0 := by omega
      rw [okI_of Pc.1, (Pc.2.2 i hin).1]
      refine ⟨by unfold inR; omega, ⟨by omega, by omega⟩, ?_⟩
      refine jn_in (fun K263 hK263 => ?_)
      have nxt : ∀ g' : AH, Fr gb g' (p + 3) (p + 4) → (∀ k : Nat, k < Nc c0 → haI g' (p + 3) (k : Int) = if k < i + 1 ∧ kfA c0 c1 st k ≠ 4 ∧ (mfA c0 c1 st t).1 k ≠ glM c0 c1 st k then sti c0 c1 st + 1 + (t : Int) else haI gb (p + 3) (k : Int)) → K263 g' := by
        intro g' h1 h2
        rw [hK263]
        exact ⟨by unfold inR; omega, fun u hu => ⟨_, by omega, (hJ _ _ _).mpr ⟨i + 1, by omega, rfl, by omega, h1, h2⟩⟩⟩
      have stay : ¬ (kfA c0 c1 st i ≠ 4 ∧ (mfA c0 c1 st t).1 i ≠ glM c0 c1 st i) → K263 gc := by
        intro hno
        refine nxt gc Fc (fun k hk2 => ?_)
        rw [Ac' k hk2]
        by_cases ek : k = i
        · rw [if_neg (by omega), if_neg (fun hh => hno (by rw [← ek]; exact hh.2))]
        · by_cases e5 : k < i ∧ kfA c0 c1 st k ≠ 4 ∧ (mfA c0 c1 st t).1 k ≠ glM c0 c1 st k
          · rw [if_pos e5, if_pos ⟨by omega, e5.2⟩]
          · rw [if_neg e5, if_neg (fun hh => e5 ⟨by omega, hh.2⟩)]
      rcases gl_of (c1 := c1) (pw_A (c0 := c0) (st := st)) hin with ⟨h1, h2⟩ | ⟨j, h1, h2, h3⟩
      · have h4 : kfA c0 c1 st i = 4 := (gl_4 hin).mp h2
        rw [h1]
        exact ⟨fun _ => stay (fun hh => hh.1 h4), fun hh => absurd (by omega) hh⟩
      · have h3 : glM c0 c1 st i = (Lc c1 j : Int) := h3
        have h4 : kfA c0 c1 st i ≠ 4 := fun h4 => by
          have := (gl_4 (c1 := c1) (st := st) hin).mpr h4
          omega
        have rc : haI gc (p + 1) (i : Int) = (mfA c0 c1 st t).1 i := by
          rw [Rc.2.2 i hin]; exact if_neg (by omega)
        rw [h2, okI_of Rc.1, okI_of Kc.1.2.1, rc, (Kc.1.2.2 j h1).1, ← h3]
        refine ⟨fun hh => absurd hh (by omega), fun _ => ⟨⟨by omega, by omega⟩, by unfold inR; omega, ⟨by omega, by omega⟩, by unfold inR; omega, ⟨by omega, by omega⟩, fun heq => stay (fun hh => hh.2 heq), fun hne => ?_⟩⟩
        rw [okW_of (show hkd gc (p + 1 + 1 + 1) = (1, 8) by rw [Fc.kd]; exact ka)]
        refine ⟨⟨by omega, by omega, by rw [Fc.lo]; exact la⟩, fun gd ed => nxt gd ?_ (fun k hk2 => ?_)⟩
        · rw [ed]; exact Fc.tsa (by omega) (by omega)
        · rw [ed, haI_saI, if_pos rfl, u1_apply]
          by_cases ek : k = i
          · rw [if_pos (by omega), if_pos ⟨by omega, by rw [ek]; exact h4, by rw [ek]; exact hne⟩]
          · rw [if_neg (by omega)]
            have a := Ac' k hk2
            have a : haI gc (p + 1 + 1 + 1) (k : Int) = _ := a
            rw [a]
            by_cases e5 : k < i ∧ kfA c0 c1 st k ≠ 4 ∧ (mfA c0 c1 st t).1 k ≠ glM c0 c1 st k
            · rw [if_pos e5, if_pos ⟨by omega, e5.2⟩]
            · rw [if_neg e5, if_neg (fun hh => e5 ⟨by omega, hh.2⟩)]
  clear hI
  refine ⟨fun hgo => move (lt.mp (.inl ?_)), fun hno => ?_⟩
  · by_cases e : 0 < cG (glA c1 (prA c0 c1 st)) (mfA c0 c1 st t).1 (Nc c0)
    · exact e
    · rw [if_neg e] at hgo; exact absurd rfl hgo
  have hcg : ¬ 0 < cG (glM c0 c1 st) (mfA c0 c1 st t).1 (Nc c0) := fun e => by
    have e : 0 < cG (glA c1 (prA c0 c1 st)) (mfA c0 c1 st t).1 (Nc c0) := e
    rw [if_pos e] at hno; omega
  refine jn_in (fun K321 hK321 => ?_)
  have fin : t = F → K321 gb := by
    intro etF
    subst etF
    rw [hK321]
    simp only
    have A9 : PoR gb (p + 3) (Nc c0) (arT c0 c1 st t) := by
      refine ⟨ka, la, fun k hk2 => ?_⟩
      unfold arT arrA
      by_cases h4 : kfA c0 c1 st k = 4
      · rw [if_pos h4]; exact (Ab k hk2).1 h4
      · rw [if_neg h4]
        refine (Ab k hk2).2 h4 ?_
        by_cases e : (mfA c0 c1 st t).1 k = glM c0 c1 st k
        · exact e
        · exact absurd (cG_pos.mpr ⟨k, hk2, fun hh => h4 ((gl_4 hk2).mp hh), e⟩) hcg
    -- letters appear
    obtain ⟨J, hJ⟩ : ∃ J : Nat → Int → Int → Int → AH → Prop, ∀ m f a y g', J m f a y g' ↔ ∃ j : Nat, j ≤ Nc c1 ∧ m = Nc c1 - j ∧ y = (j : Int) ∧ a = (cK (ksA c0 c1 st) j 5 : Int) ∧ f = sti c0 c1 st + 1 + (t : Int) + (cK (ksA c0 c1 st) j 5 : Int) ∧ W g' ∧ Ga gb g' x (x + 113) := ⟨_, fun _ _ _ _ _ => Iff.rfl⟩
    refine ⟨J, ⟨_, by omega, (hJ _ _ _ _ _).mpr ⟨0, Nat.zero_le _, rfl, rfl, rfl, by show _ = _ + ((0 : Nat) : Int); omega, Wb, Ga.refl _ _ _⟩⟩, ?_⟩
    intro m2 f2 a2 y2 gc hj9
    obtain ⟨j, hj, rfl, rfl, rfl, rfl, Wc, Gc⟩ := (hJ _ _ _ _ _).mp hj9
    obtain ⟨-, Cc, Kc, Pc⟩ := (hW _).mp Wc
    have Rc := Rb.ga Gc (by omega)
    have cj := cK_mono (f := ksA c0 c1 st) (v := 5) hj
    have poE : ∀ f3 : Int, sti c0 c1 st + (t : Int) ≤ f3 → PoR gc (p + 1) (Nc c0) (fun i => plA c0 c1 st t i f3) := fun f3 h3 => ⟨Rc.1, Rc.2.1, fun k hk2 => by rw [Rc.2.2 k hk2]; exact (pl_end hk2 h3).symm⟩
    have mvE : ∀ f3 : Int, sti c0 c1 st + (t : Int) ≤ f3 → ∀ i, i < Nc c0 → kfA c0 c1 st i = 3 → ((1 : Int) ≠ 0 ↔ 0 < mvd c0 c1 st t f3) := by
      intro f3 h3 i hi2 hk3
      rw [mvd_hi h3]
      have h1 := hF.1.1
      rw [if_pos (cK_pos.mpr ⟨i, hi2, hk3⟩)] at h1
      constructor <;> intro hh <;> omega
    rw [okI_of Kc.2.1.1, Kc.2.1.2.2]
    refine ⟨⟨by omega, by omega⟩, fun hc => ?_, fun hc => ?_⟩
    · have hjn : j = Nc c1 := by omega
      subst hjn
      have s7 : haI gc (x + 113 + 3) (7 : Int) = st 7 := Kc.2.2.1.2 7 (by omega)
      rw [okI_of Kc.2.2.1.1, s7]
      refine ⟨⟨by omega, by omega⟩, by unfold inR; omega, fun f4 hf4 => ⟨by unfold inR; omega, ?_⟩⟩
      refine jn_in (fun K437 hK437 => ?_)
      have last : ∀ (v : Int) (g' : AH), v = fraA c0 c1 st t (f4 - 1) 2 → W g' → Ga gc g' x (x + 113) → K437 v g' := by
        intro v g' hv w z
        rw [hK437]
        simp only
        have R' := (poE (f4 - 1) (by omega)).ga z (by omega)
        refine frm g' (f4 - 1) xx _ 1 v _ w R' ⟨by omega, by omega⟩ ⟨by omega, by omega⟩ (mvE (f4 - 1) (by omega)) (fun l hl h5 => ?_) hv (fun gd zd wd => ⟨fun _ => ?_, fun h0 => absurd h0 (by omega)⟩)
        · have c5 := cK_s (f := ksA c0 c1 st) (n := l) (v := 5)
          rw [if_pos h5] at c5
          have c6 := cK_mono (f := ksA c0 c1 st) (v := 5) (show l + 1 ≤ Nc c1 by omega)
          unfold theA
          constructor <;> intro hh <;> omega
        · obtain ⟨-, Cd, Kd, Pd⟩ := (hW _).mp wd
          have Zd := (Gc.trans z).trans zd
          have Hd := Hb.ga Zd (by omega)
          have Ad := A9.ga Zd (by omega)
          refine l_letters Cd hD hF Kd (by omega) Pd Hd Ad (fun ge ze Ce => ?_)
          have We := Wga wd ze Ce
          obtain ⟨-, -, Ke, Pe⟩ := (hW _).mp We
          have He := Hd.ga ze (by omega)
          refine jn_in (fun K500 hK500 => ?_)
          refine jn_in (fun K499 hK499 => ?_)
          refine ⟨fun h0 => absurd h0 (by omega), fun _ => l_counts Ce hD hF Ke (by omega) Pe He (by omega) rfl rfl (mht_sum t) (fun gf zf Cf => ⟨fun h0 => absurd h0 (by omega), fun _ => ?_⟩)⟩
          have Wf := Wga We zf Cf
          obtain ⟨f1, f2, f3, f4'⟩ := (hW _).mp Wf
          rw [hK500]
          exact ⟨.inr rfl, q gf f1 f2 f3⟩
      have zero : ¬ ((0 : Int) < (t : Int) ∧ (cK (ksA c0 c1 st) (Nc c1) 5 : Int) = 0 ∧ st 7 = 0) → K437 0 gc := by
        intro hno2
        refine last 0 gc ?_ Wc (Ga.refl _ _ _)
        refine (hin_no ?_).symm
        by_cases e1 : t = 0
        · by_cases e2 : (f4 - 1 - sti c0 c1 st) < 1
          · exact .inl e2
          · exact .inr (by omega)
        · right
          have : ¬ ((cK (ksA c0 c1 st) (Nc c1) 5 : Int) = 0 ∧ st 7 = 0) := fun hh => hno2 ⟨by omega, hh⟩
          omega
      refine jn_in (fun K436 hK436 => ?_)
      have z436 : ¬ ((0 : Int) < (t : Int) ∧ (cK (ksA c0 c1 st) (Nc c1) 5 : Int) = 0 ∧ st 7 = 0) → K436 gc := fun hh => by rw [hK436]; exact zero hh
      refine ⟨fun hle => z436 (fun hh => by omega), fun hgt => ⟨fun hne => z436 (fun hh => hne hh.2.1), fun he => ⟨⟨by omega, by omega⟩, fun hne => z436 (fun hh => hne hh.2.2), fun he7 => ⟨by unfold inR; omega, by rw [okA_of Cc.1.1], ?_⟩⟩⟩⟩
      have d0 : D.1.1 = c0 := by rw [hD]
      have d1 : D.1.2.1 = c1 := by rw [hD]
      have d2 : D.1.2.2 = st := by rw [hD]
      refine c_frame Cc (fun F' g' hF' _ _ z' C' => ?_) (fun F' g' hF' hno3 _ _ => ?_) (fun F' g' hF' _ hno3 _ _ => absurd (by omega) hno3)
      · rw [d0, d1, d2] at hF' ⊢
        rw [isFF_u hF' hF]
        exact last _ g' rfl (Wga Wc z' C') z'
      · rw [d0, d1, d2] at hF' hno3
        rw [isFF_u hF' hF] at hno3
        exact hno3 ⟨by omega, by omega⟩
    · have hjn : j < Nc c1 := by omega
      refine l_taken Kc.2.1.1 Kc.2.1.2.1 Pc pw_A n8 hjn ?_
      refine jn_in (fun K381 hK381 => ?_)
      have nxt : ∀ (f' a' : Int) (g' : AH), a' = (cK (ksA c0 c1 st) (j + 1) 5 : Int) → f' = sti c0 c1 st + 1 + (t : Int) + (cK (ksA c0 c1 st) (j + 1) 5 : Int) → W g' → Ga gb g' x (x + 113) → K381 f' a' g' := by
        intro f' a' g' h1 h2 h3 h4
        rw [hK381]
        exact ⟨by unfold inR; omega, fun u hu => ⟨_, by omega, (hJ _ _ _ _ _).mpr ⟨j + 1, by omega, rfl, by omega, h1, h2, h3, h4⟩⟩⟩
      have k5 := ks5 (c0 := c0) (st := st) hjn
      have c5 := cK_s (f := ksA c0 c1 st) (n := j) (v := 5)
      by_cases e5 : psA c0 c1 st j = -1
      · have e5' : (prA c0 c1 st).2.1 j = -1 := e5
        have hk5 := k5.mpr e5
        rw [if_pos hk5] at c5
        have c6 := cK_mono (f := ksA c0 c1 st) (v := 5) (show j + 1 ≤ Nc c1 by omega)
        rw [if_pos e5']
        refine ⟨fun _ => ⟨by unfold inR; omega, fun a3 ha3 => ⟨by unfold inR; omega, fun f3 hf3 => ?_⟩⟩, fun hh => absurd rfl hh⟩
        refine frm gc _ xx a3 1 0 _ Wc (poE _ (by omega)) ⟨by omega, by omega⟩ ⟨by omega, by omega⟩ (mvE _ (by omega)) (fun l hl h5 => ?_) ?_ (fun g' z w => ⟨fun _ => nxt _ _ g' (by omega) (by omega) w (Gc.trans z), fun h0 => absurd h0 (by omega)⟩)
        · have d5 := cK_s (f := ksA c0 c1 st) (n := l) (v := 5)
          rw [if_pos h5] at d5
          unfold theA
          constructor <;> intro hh <;> omega
        · exact (hin_no (.inr (by omega))).symm
      · have e5' : ¬ (prA c0 c1 st).2.1 j = -1 := e5
        have hk5 : ¬ ksA c0 c1 st j = 5 := fun hh => e5 (k5.mp hh)
        rw [if_neg hk5] at c5
        rw [if_neg e5']
        exact ⟨fun hh => absurd hh (by omega), fun _ => nxt _ _ gc (by omega) (by omega) Wc Gc⟩
  have notlt : ¬ (t = 0 ∧ 0 < cK (kfA c0 c1 st) (Nc c0) 3) → t = F := by
    intro hh
    by_cases e : t < F
    · rcases lt.mpr e with h1 | h1
      · exact absurd h1 hcg
      · exact absurd h1 hh
    · omega
  refine ⟨fun hne => fin (notlt (fun hh => by omega)), fun he => ?_⟩
  refine l_many Kb.2.1.1 Kb.2.1.2.1 Pb n8 ⟨fun hle => fin (notlt (fun hh => ?_)), fun hgt => move (lt.mp (.inr ⟨by omega, ?_⟩))⟩
  · have h1 : 0 < cK (prA c0 c1 st).2.2.1 (Nc c0) 3 := hh.2
    omega
  · show 0 < cK (prA c0 c1 st).2.2.1 (Nc c0) 3
    omega
