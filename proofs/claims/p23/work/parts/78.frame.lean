/-! SECOND LAW, 9: a frame as it is told -/
theorem CR.out {h h' : AH} {zz : Nat → Nat} {x u v : Nat} {D : DT} (C : CR h zz x D) (F : Fr h h' u v) (hu : x + 113 ≤ u) : CR h' zz x D := C.ag (fun q hq => ⟨by rw [F.kd], F.fi (by omega), by rw [F.rf], F.ai (by omega)⟩) F.lo (by rw [F.ar])
theorem isFF_u {c0 c1 st : Nat → Int} {F G : Nat} (h1 : isFF c0 c1 st F) (h2 : isFF c0 c1 st G) : F = G := isF_u h1.1 h2.1
set_option maxHeartbeats 2000000 in
theorem l_frame {zz : Nat → Nat} {x p F : Nat} {f xx come mv held : Int} {h : AH} {Q : Int → AH → Prop} {D : DT} {c0 c1 st : Nat → Int} (C : CR h zz x D) (hD : D.1 = (c0, c1, st)) (hF : isFF c0 c1 st F) (K : LK h (x + 113) c0 c1 st) (hp : x + 117 ≤ p) (P : PaR h p (Nc c0) (prA c0 c1 st).1 (prA c0 c1 st).2.2.1) (R : PoR h (p + 1) (Nc c0) (fun i => plA c0 c1 st F i f)) (hf : 0 ≤ f ∧ f < nFr c0 c1 st F) (hx : 0 ≤ xx ∧ xx ≤ 1000000000) (hmv : ∀ i, i < Nc c0 → kfA c0 c1 st i = 3 → (mv ≠ 0 ↔ 0 < mvd c0 c1 st F f)) (hcome : ∀ l, l < Nc c1 → ksA c0 c1 st l = 5 → ((cK (ksA c0 c1 st) l 5 : Int) < come ↔ theA c0 c1 st F l ≤ f)) (hheld : held = fraA c0 c1 st F f 2) (q : ∀ h' : AH, Ga h h' x (x + 113) → CR h' zz x D → Q 1 h') : w_L_frame zz x f xx come mv held (x + 113) (x + 113 + 1) (x + 113 + 2) p (p + 1) h Q := by
  obtain ⟨n8, m8⟩ := K.2.2.2.2.1
  have G := K.2.2.2.2.2.2.2
  have e0 : D.1.1 = c0 := by rw [hD]
  have e1 : D.1.2.1 = c1 := by rw [hD]
  have e2 : D.1.2.2 = st := by rw [hD]
  have X : ∀ g : AH, CR g zz x D → hkd g x = (10, 0) := fun g Cg => Cg.1.1
  unfold w_L_frame
  obtain ⟨I, hI⟩ : ∃ I : Nat → Int → Int → Int → AH → Prop, ∀ m a1 a2 a3 g, I m a1 a2 a3 g ↔ ∃ c : Nat, c ≤ 80 ∧ m = 80 - c ∧ a1 = sN (cwl c0 c1 st F f) c ∧ a2 = sN (shd c0 c1 st F f (Nc c0)) c ∧ a3 = (c : Int) ∧ Ga h g x (x + 113) ∧ CR g zz x D := ⟨_, fun _ _ _ _ _ => Iff.rfl⟩
  refine ⟨I, ⟨_, (hI _ _ _ _ _).mpr ⟨0, by omega, rfl, rfl, rfl, rfl, Ga.refl _ _ _, C⟩⟩, ?_⟩
  intro m a1 a2 a3 g hi9
  obtain ⟨c, hc80, rfl, rfl, rfl, rfl, Gg, Cg⟩ := (hI _ _ _ _ _).mp hi9
  have Kg := K.ga Gg (by omega)
  have Pg := P.ga Gg (by omega)
  have Rg := R.ga Gg (by omega)
  have cw01 : ∀ k, k < c → 0 ≤ cwl c0 c1 st F f k ∧ cwl c0 c1 st F f k ≤ 1 := fun k _ => by unfold cwl; split <;> omega
  have sh01 : ∀ k, k < c → 0 ≤ shd c0 c1 st F f (Nc c0) k ∧ shd c0 c1 st F f (Nc c0) k ≤ 1 := fun k _ => by unfold shd; split <;> omega
  have b1 := sN_bd cw01
  have b2 := sN_bd sh01
  refine ⟨fun hc => ?_, fun hc => ?_⟩
  · have hc8 : c = 80 := by omega
    subst hc8
    obtain ⟨J, hJ⟩ : ∃ J : Nat → Int → Int → AH → Prop, ∀ m y1 y2 g', J m y1 y2 g' ↔ ∃ i : Nat, i ≤ Nc c0 ∧ m = Nc c0 - i ∧ y1 = sN (plf c0 c1 st f) i ∧ y2 = (i : Int) ∧ Ga h g' x (x + 113) ∧ CR g' zz x D := ⟨_, fun _ _ _ _ => Iff.rfl⟩
    refine ⟨J, ⟨_, (hJ _ _ _ _).mpr ⟨0, Nat.zero_le _, rfl, rfl, rfl, Gg, Cg⟩⟩, ?_⟩
    intro m2 y1 y2 g2 hj9
    obtain ⟨i, hi, rfl, rfl, rfl, G2, C2⟩ := (hJ _ _ _ _).mp hj9
    have K2 := K.ga G2 (by omega)
    have R2 := R.ga G2 (by omega)
    have pl01 : ∀ k, k < i → 0 ≤ plf c0 c1 st f k ∧ plf c0 c1 st f k ≤ 1 := fun k _ => by unfold plf; split <;> omega
    have b3 := sN_bd pl01
    rw [okI_of K2.2.1.1, K2.2.1.2.1]
    refine ⟨⟨by omega, by omega⟩, fun hc2 => ?_, fun hc2 => ?_⟩
    · have hin : i = Nc c0 := by omega
      refine ⟨by rw [okA_of (X g2 C2)], ?_⟩
      -- the four properties
      have fr : ∀ (v : Int) (g3 : AH) (Q3 : Int → AH → Prop), (0 ≤ v ∧ v < 5) → Ga h g3 x (x + 113) → CR g3 zz x D → (∀ g4 : AH, Ga h g4 x (x + 113) → CR g4 zz x D → Q3 (fraA c0 c1 st F f v) g4) → w_X6_frame zz x f v g3 Q3 (fun _ _ => False) := by
        intro v g3 Q3 hv G3 C3 q3
        refine c_frame C3 (fun F' g4 hF' _ _ G4 C4 => ?_) (fun F' g4 hF' hno _ _ => ?_) (fun F' g4 hF' _ hno _ _ => absurd hv hno)
        · rw [e0, e1, e2] at hF' ⊢
          rw [isFF_u hF' hF]
          exact q3 g4 (G3.trans G4) C4
        · rw [e0, e1, e2] at hF' hno
          rw [isFF_u hF' hF] at hno
          exact hno hf
      refine fr 0 g2 _ (by omega) G2 C2 (fun g3 G3 C3 => ?_)
      refine jn_in (fun K252 hK252 => ?_)
      refine jn_in (fun K251 hK251 => ?_)
      have f0 : fraA c0 c1 st F f 0 = sN (cwl c0 c1 st F f) 80 := rfl
      have f3 : fraA c0 c1 st F f 3 = sN (shd c0 c1 st F f (Nc c0)) 80 := rfl
      have f4 : fraA c0 c1 st F f 4 = sN (plf c0 c1 st f) (Nc c0) := rfl
      refine ⟨fun hne => absurd f0 hne, fun _ => ⟨by rw [okA_of (X g3 C3)], fr 2 g3 _ (by omega) G3 C3 (fun g4 G4 C4 => ?_)⟩⟩
      refine ⟨fun hne => absurd hheld.symm hne, fun _ => ⟨by rw [okA_of (X g4 C4)], fr 3 g4 _ (by omega) G4 C4 (fun g5 G5 C5 => ?_)⟩⟩
      refine ⟨fun hne => absurd f3 hne, fun _ => ⟨by rw [okA_of (X g5 C5)], fr 4 g5 _ (by omega) G5 C5 (fun g6 G6 C6 => ?_)⟩⟩
      refine ⟨fun hne => absurd (by rw [f4, hin]) hne, fun _ => ?_⟩
      rw [hK252]
      exact ⟨.inr rfl, q g6 G6 C6⟩
    · have hin : i < Nc c0 := by omega
      have r2 : haI g2 (p + 1) (i : Int) = plA c0 c1 st F i f := R2.2.2 i hin
      rw [okI_of R2.1, r2]
      refine ⟨⟨by omega, by omega⟩, ?_⟩
      refine jn_in (fun K177 hK177 => ?_)
      have go : ∀ v : Int, v = plf c0 c1 st f i → K177 v g2 := by
        intro v hv
        have hv01 : 0 ≤ v ∧ v ≤ 1 := by rw [hv]; unfold plf; split <;> omega
        rw [hK177]
        refine ⟨by unfold inR; omega, fun s hs => ⟨by rw [okA_of (X g2 C2)], ?_⟩⟩
        refine c_place C2 (fun F' g3 hF' _ _ G3 C3 => ?_) (fun F' g3 hF' hno _ _ => ?_)
        · rw [e0, e1, e2] at hF' ⊢
          rw [isFF_u hF' hF, toN]
          have R3 := R.ga (G2.trans G3) (by omega)
          have r3 : haI g3 (p + 1) (i : Int) = plA c0 c1 st F i f := R3.2.2 i hin
          rw [okI_of R3.1, r3]
          exact ⟨⟨by omega, by omega⟩, fun _ => ⟨by unfold inR; omega, fun u hu => ⟨_, by omega, (hJ _ _ _ _).mpr ⟨i + 1, by omega, rfl, by rw [hs, hv]; rfl, by omega, G2.trans G3, C3⟩⟩⟩, fun hne => absurd rfl hne⟩
        · rw [e0, e1, e2] at hF' hno
          rw [isFF_u hF' hF] at hno
          exact hno ⟨hf, by omega, by omega⟩
      have plv : plA c0 c1 st F i f = if kfA c0 c1 st i = 4 ∧ gonA c0 c1 st i ≤ f then -1 else (mfA c0 c1 st (mvd c0 c1 st F f)).1 i := rfl
      have mb := (mfA_bd (c0 := c0) (c1 := c1) G (t := mvd c0 c1 st F f) hin).1
      refine ⟨fun hge => go 1 ?_, fun hlt => go 0 ?_⟩
      · unfold plf
        by_cases e : kfA c0 c1 st i = 4 ∧ gonA c0 c1 st i ≤ f
        · rw [plv, if_pos e] at hge; omega
        · rw [if_neg e]
      · unfold plf
        by_cases e : kfA c0 c1 st i = 4 ∧ gonA c0 c1 st i ≤ f
        · rw [if_pos e]
        · rw [plv, if_neg e] at hlt; omega
  · have hc8 : c < 80 := by omega
    obtain ⟨J, hJ⟩ : ∃ J : Nat → Int → Int → AH → Prop, ∀ m y1 y2 g', J m y1 y2 g' ↔ ∃ i : Nat, i ≤ Nc c0 ∧ m = Nc c0 - i ∧ y1 = (pcN c0 c1 st F f i c : Int) ∧ y2 = (i : Int) ∧ g' = g := ⟨_, fun _ _ _ _ => Iff.rfl⟩
    refine ⟨J, ⟨_, (hJ _ _ _ _).mpr ⟨0, Nat.zero_le _, rfl, rfl, rfl, rfl⟩⟩, ?_⟩
    intro m2 y1 y2 g2 hj9
    obtain ⟨i, hi, rfl, rfl, rfl, eg⟩ := (hJ _ _ _ _).mp hj9
    subst eg
    have pb := pcN_le (c0 := c0) (c1 := c1) (st := st) (F := F) (f := f) (n := i) (c := c)
    rw [okI_of Kg.2.1.1, Kg.2.1.2.1]
    refine ⟨⟨by omega, by omega⟩, fun hc2 => ?_, fun hc2 => ?_⟩
    · have hin : i = Nc c0 := by omega
      subst hin
      refine jn_in (fun K73 hK73 => ?_)
      have go : ∀ v : Int, v = shd c0 c1 st F f (Nc c0) c → K73 v g2 := by
        intro v hv
        have hv01 : 0 ≤ v ∧ v ≤ 1 := by rw [hv]; unfold shd; split <;> omega
        rw [hK73]
        refine ⟨by unfold inR; omega, fun s hs => ?_⟩
        refine l_shown Kg Pg Rg hmv hcome ?_
        refine jn_in (fun K110 hK110 => ?_)
        have go2 : ∀ v2 : Int, v2 = cwl c0 c1 st F f c → K110 v2 g2 := by
          intro v2 hv2
          have h201 : 0 ≤ v2 ∧ v2 ≤ 1 := by rw [hv2]; unfold cwl; split <;> omega
          rw [hK110]
          refine ⟨by unfold inR; omega, fun s2 hs2 => ⟨by unfold inR; omega, ⟨by omega, by omega⟩, ?_⟩⟩
          refine jn_in (fun K144 hK144 => ?_)
          have nxt : ∀ g3 : AH, Ga h g3 x (x + 113) → CR g3 zz x D → K144 g3 := by
            intro g3 G3 C3
            rw [hK144]
            exact ⟨by unfold inR; omega, fun u hu => ⟨_, by omega, (hI _ _ _ _ _).mpr ⟨c + 1, by omega, rfl, by rw [hs2, hv2]; rfl, by rw [hs, hv]; rfl, by omega, G3, C3⟩⟩⟩
          refine ⟨fun _ => nxt g2 Gg Cg, fun _ => ⟨⟨by omega, by omega⟩, ⟨by omega, by omega⟩, by rw [okA_of (X g2 Cg)], ?_⟩⟩
          refine c_at Cg (fun F' g3 hF' _ _ G3 C3 => ?_) (fun F' g3 hF' hno _ _ => ?_)
          · rw [e0, e1, e2] at hF' ⊢
            rw [isFF_u hF' hF, show (16 * ((c : Int) / 16) + (c : Int) % 16).toNat = c by omega]
            exact ⟨fun _ => nxt g3 (Gg.trans G3) C3, fun hne => absurd rfl hne⟩
          · rw [e0, e1, e2] at hF' hno
            rw [isFF_u hF' hF] at hno
            exact hno ⟨hf, by omega, by omega⟩
        refine ⟨fun hne => go2 1 ?_, fun he => go2 0 ?_⟩
        · unfold cwl; rw [if_neg hne]
        · unfold cwl; rw [if_pos he]
      refine ⟨fun hle => go 0 ?_, fun hgt => go 1 ?_⟩
      · unfold shd; rw [if_neg (by omega)]
      · unfold shd; rw [if_pos (by omega)]
    · have hin : i < Nc c0 := by omega
      have rg : haI g2 (p + 1) (i : Int) = plA c0 c1 st F i f := Rg.2.2 i hin
      rw [okI_of Rg.1, rg]
      refine ⟨⟨by omega, by omega⟩, ?_⟩
      refine jn_in (fun K51 hK51 => ?_)
      have go : ∀ v : Nat, v = (if plA c0 c1 st F i f = (c : Int) then 1 else 0) → K51 (v : Int) g2 := by
        intro v hv
        have hv1 : v ≤ 1 := by rw [hv]; split <;> omega
        rw [hK51]
        exact ⟨by unfold inR; omega, fun s hs => ⟨by unfold inR; omega, fun u hu => ⟨_, by omega, (hJ _ _ _ _).mpr ⟨i + 1, by omega, rfl, by rw [hs, pcN_s, ← hv]; omega, by omega, rfl⟩⟩⟩⟩
      exact ⟨fun hne => go 0 (by rw [if_neg hne]), fun he => go 1 (by rw [if_pos he])⟩
