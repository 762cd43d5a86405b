/-! SECOND LAW, 11: counts, settings, the likeness as they are told -/
theorem st0_set {zz : Nat → Nat} {x : Nat} {s : Int} {g : AH} {Q : Int → AH → Prop} {D : DT} {c0 c1 st : Nat → Int} (C : CR g zz x D) (hD : D.1 = (c0, c1, st)) (hs : 0 ≤ s ∧ s < 8) (q : Q (st s.toNat) g) : w_X6_setting zz x s g Q (fun _ _ => False) := by
  refine c_setting C (fun _ => ?_) (fun hno _ => hno hs)
  have e2 : D.1.2.2 = st := by rw [hD]
  rw [e2]; exact q
theorem cmp_same {c n : Nat} (h1 : 2 * c ≤ n) (h2 : n ≤ 80) (h0 : 0 < n) : (Op.cmpValue (FP.dcmp (lkC c n) (lkC c n)) CmpOp.l).toInt = 0 := by
  rw [(lk_all h1 h2 h0).2.2.2.2]; rfl
theorem cmp_one : (Op.cmpValue (FP.dcmp FP.dconst1 FP.dconst1) CmpOp.l).toInt = 0 := by decide +kernel
set_option maxHeartbeats 2000000 in
theorem l_counts {zz : Nat → Nat} {x p F : Nat} {f mo ap : Int} {h : AH} {Q : Int → AH → Prop} {D : DT} {c0 c1 st : Nat → Int} (C : CR h zz x D) (hD : D.1 = (c0, c1, st)) (hF : isFF c0 c1 st F) (K : LK h (x + 113) c0 c1 st) (hp : x + 117 ≤ p) (P : PaR h p (Nc c0) (prA c0 c1 st).1 (prA c0 c1 st).2.2.1) (H : PaR h (p + 2) (Nc c0) (mfA c0 c1 st F).2.1 (mfA c0 c1 st F).2.2.1) (hf : f = nFr c0 c1 st F) (hmo : mo = (F : Int)) (hap : ap = (cK (ksA c0 c1 st) (Nc c1) 5 : Int)) (hht : sN (mfA c0 c1 st F).2.2.1 (Nc c0) = (mht (Nc c0) (glM c0 c1 st) (s0M c0) (st 4) (st 5) F : Int)) (q : ∀ h' : AH, Ga h h' x (x + 113) → CR h' zz x D → Q 1 h') : w_L_counts zz x f mo ap (x + 113) (x + 113 + 1) (x + 113 + 2) (x + 113 + 3) p (p + 2) h Q := by
  obtain ⟨n8, m8⟩ := K.2.2.2.2.1
  have G := K.2.2.2.2.2.2.2
  have X : ∀ g : AH, CR g zz x D → okA g x 6 := fun g Cg => by rw [okA_of Cg.1.1]
  have KK : ∀ g, Ga h g x (x + 113) → LK g (x + 113) c0 c1 st := fun g Z => K.ga Z (by omega)
  have PP : ∀ g, Ga h g x (x + 113) → PaR g p (Nc c0) (prA c0 c1 st).1 (prA c0 c1 st).2.2.1 := fun g Z => P.ga Z (by omega)
  have F190 := hF.2
  unfold w_L_counts
  obtain ⟨I, hI⟩ : ∃ I : Nat → Int → Int → Int → AH → Prop, ∀ m a1 a2 a g, I m a1 a2 a g ↔ ∃ k : Nat, k ≤ Nc c0 ∧ m = Nc c0 - k ∧ a1 = sN (disA c0 c1 st) k ∧ a2 = sN (mfA c0 c1 st F).2.2.1 k ∧ a = (k : Int) ∧ g = h := ⟨_, fun _ _ _ _ _ => Iff.rfl⟩
  refine ⟨I, ⟨_, (hI _ _ _ _ _).mpr ⟨0, Nat.zero_le _, rfl, rfl, rfl, rfl, rfl⟩⟩, ?_⟩
  intro m a1 a2 a g hi9
  obtain ⟨k, hk, rfl, rfl, rfl, rfl, eg⟩ := (hI _ _ _ _ _).mp hi9
  subst eg
  have db := sN_bd (f := disA c0 c1 st) (n := k) (b := 51) (fun i hi => dis_bd G (by omega))
  have hb := sN_bd (f := (mfA c0 c1 st F).2.2.1) (n := k) (b := 190) (fun i hi => by
    have := (mfA_bd (c0 := c0) (c1 := c1) G (t := F) (show i < Nc c0 by omega)).2.2.1
    omega)
  have Gr := Ga.refl g x (x + 113)
  rw [okI_of K.2.1.1, K.2.1.2.1]
  refine ⟨⟨by omega, by omega⟩, fun hc => ?_, fun hc => ?_⟩
  · have hkn : k = Nc c0 := by omega
    subst hkn
    obtain ⟨J, hJ⟩ : ∃ J : Nat → Int → AH → Prop, ∀ m a g', J m a g' ↔ ∃ j : Nat, j ≤ 8 ∧ m = 8 - j ∧ a = (j : Int) ∧ g' = g := ⟨_, fun _ _ _ => Iff.rfl⟩
    refine ⟨J, ⟨_, (hJ _ _ _).mpr ⟨0, Nat.zero_le _, rfl, rfl, rfl⟩⟩, ?_⟩
    intro m2 a g2 hj9
    obtain ⟨j, hj, rfl, rfl, eg⟩ := (hJ _ _ _).mp hj9
    subst eg
    refine ⟨fun hc2 => ?_, fun hc2 => ?_⟩
    · rw [okI_of K.2.1.1, okI_of K.2.1.1, K.2.1.2.1, K.2.1.2.2]
      refine ⟨⟨by omega, by omega⟩, ⟨by omega, by omega⟩, by unfold inR; omega, fun al hal => ⟨X g2 C, ?_⟩⟩
      refine c_likeness C (fun F' g3 G3 C3 => ?_)
      have e0 : D.1.1 = c0 := by rw [hD]
      have e1 : D.1.2.1 = c1 := by rw [hD]
      have e2 : D.1.2.2 = st := by rw [hD]
      rw [e0, e1, e2]
      have C3 := C3.1
      refine jn_in (fun K148 hK148 => ?_)
      have nf := nFr_bd (c0 := c0) (c1 := c1) G (by omega) (by omega) F190
      have go : ∀ t : UInt64, (Op.cmpValue (FP.dcmp (likA c0 c1 st) t) CmpOp.l).toInt = 0 → K148 t g3 := by
        intro t ht
        rw [hK148]
        refine ⟨fun _ => ⟨X g3 C3, ct0 C3 hD hF (by omega) (fun g4 Z4 C4 => ?_)⟩, fun hne => absurd ht hne⟩
        have G4 := G3.trans Z4
        refine jn_in (fun K299 hK299 => ?_)
        refine jn_in (fun K298 hK298 => ?_)
        have n0 : numA c0 c1 st F 0 = nFr c0 c1 st F := rfl
        have n1 : numA c0 c1 st F 1 = (Nc c0 : Int) := rfl
        have n2 : numA c0 c1 st F 2 = (Nc c1 : Int) := rfl
        have n3 : numA c0 c1 st F 3 = (cK (kfA c0 c1 st) (Nc c0) 1 : Int) := rfl
        have n4 : numA c0 c1 st F 4 = (cK (kfA c0 c1 st) (Nc c0) 2 : Int) := rfl
        have n5 : numA c0 c1 st F 5 = (cK (kfA c0 c1 st) (Nc c0) 3 : Int) := rfl
        have n6 : numA c0 c1 st F 6 = (cK (kfA c0 c1 st) (Nc c0) 4 : Int) := rfl
        have n7 : numA c0 c1 st F 7 = (cK (ksA c0 c1 st) (Nc c1) 5 : Int) := rfl
        have n8' : numA c0 c1 st F 8 = (F : Int) := rfl
        have n9 : numA c0 c1 st F 9 = sN (disA c0 c1 st) (Nc c0) := rfl
        have n11 : numA c0 c1 st F 11 = (mht (Nc c0) (glM c0 c1 st) (s0M c0) (st 4) (st 5) F : Int) := rfl
        refine ⟨fun hne => absurd (n0.trans hf.symm) hne, fun _ => ⟨X g4 C4, ct0 C4 hD hF (by omega) (fun g5 Z5 C5 => ?_)⟩⟩
        have G5 := G4.trans Z5
        rw [okI_of (KK g5 G5).2.1.1, (KK g5 G5).2.1.2.1]
        refine ⟨⟨by omega, by omega⟩, fun hne => absurd n1 hne, fun _ => ⟨X g5 C5, ct0 C5 hD hF (by omega) (fun g6 Z6 C6 => ?_)⟩⟩
        have G6 := G5.trans Z6
        rw [okI_of (KK g6 G6).2.1.1, (KK g6 G6).2.1.2.2]
        refine ⟨⟨by omega, by omega⟩, fun hne => absurd n2 hne, fun _ => ⟨X g6 C6, ct0 C6 hD hF (by omega) (fun g7 Z7 C7 => ?_)⟩⟩
        have G7 := G6.trans Z7
        refine l_many (KK g7 G7).2.1.1 (KK g7 G7).2.1.2.1 (PP g7 G7) n8 ⟨fun hne => absurd n3 hne, fun _ => ⟨X g7 C7, ct0 C7 hD hF (by omega) (fun g8 Z8 C8 => ?_)⟩⟩
        have G8 := G7.trans Z8
        refine l_many (KK g8 G8).2.1.1 (KK g8 G8).2.1.2.1 (PP g8 G8) n8 ⟨fun hne => absurd n4 hne, fun _ => ⟨X g8 C8, ct0 C8 hD hF (by omega) (fun g9 Z9 C9 => ?_)⟩⟩
        have G9 := G8.trans Z9
        refine l_many (KK g9 G9).2.1.1 (KK g9 G9).2.1.2.1 (PP g9 G9) n8 ⟨fun hne => absurd n5 hne, fun _ => ⟨X g9 C9, ct0 C9 hD hF (by omega) (fun ga Za Ca => ?_)⟩⟩
        have Ga' := G9.trans Za
        refine l_many (KK ga Ga').2.1.1 (KK ga Ga').2.1.2.1 (PP ga Ga') n8 ⟨fun hne => absurd n6 hne, fun _ => ⟨X ga Ca, ct0 Ca hD hF (by omega) (fun gb Zb Cb => ?_)⟩⟩
        have Gb := Ga'.trans Zb
        refine ⟨fun hne => absurd (n7.trans hap.symm) hne, fun _ => ⟨X gb Cb, ct0 Cb hD hF (by omega) (fun gc Zc Cc => ?_)⟩⟩
        have Gc := Gb.trans Zc
        refine ⟨fun hne => absurd (n8'.trans hmo.symm) hne, fun _ => ⟨X gc Cc, ct0 Cc hD hF (by omega) (fun gd Zd Cd => ?_)⟩⟩
        have Gd := Gc.trans Zd
        refine ⟨fun hne => absurd n9 hne, fun _ => ⟨X gd Cd, ct0 Cd hD hF (by omega) (fun ge Ze Ce => ?_)⟩⟩
        have Ge := Gd.trans Ze
        refine ⟨fun hne => absurd (n11.trans hht.symm) hne, fun _ => ?_⟩
        rw [hK299]
        exact ⟨.inr rfl, q ge Ge Ce⟩
      have lb := lk_bd (c0 := c0) (c1 := c1) (st := st)
      refine ⟨fun hne => ?_, fun he => ?_⟩
      · have h0 : 0 < Nc c0 + Nc c1 := by omega
        have la := lk_all (c := cK (kfA c0 c1 st) (Nc c0) 1) (n := Nc c0 + Nc c1) lb (by omega) h0
        refine l_many (KK g3 G3).2.1.1 (KK g3 G3).2.1.2.1 (PP g3 G3) n8 ?_
        have ea : al = ((Nc c0 + Nc c1 : Nat) : Int) := by omega
        rw [ea]
        have h3 : FP.ddiv (FP.dmul (4611686018427387904 : UInt64) (FP.i2d (Int32.ofInt (cK (prA c0 c1 st).2.2.1 (Nc c0) 1 : Int)))) (FP.i2d (Int32.ofInt ((Nc c0 + Nc c1 : Nat) : Int))) = lkC (cK (kfA c0 c1 st) (Nc c0) 1) (Nc c0 + Nc c1) := la.2.2.1
        have h2 : vf_n64 (FP.dmul (4611686018427387904 : UInt64) (FP.i2d (Int32.ofInt (cK (prA c0 c1 st).2.2.1 (Nc c0) 1 : Int)))) := la.2.1
        refine ⟨h2, by rw [h3]; exact la.1, go _ ?_⟩
        rw [h3]
        have hl : likA c0 c1 st = lkC (cK (kfA c0 c1 st) (Nc c0) 1) (Nc c0 + Nc c1) := by unfold likA; rw [if_neg (by omega)]
        rw [hl]
        exact cmp_same lb (by omega) h0
      · refine go _ ?_
        have hl : likA c0 c1 st = FP.dconst1 := by unfold likA; rw [if_pos (by omega)]
        rw [hl]
        exact cmp_one
    · have hj8 : j < 8 := by omega
      refine ⟨X g2 C, st0_set C hD (by omega) ?_⟩
      rw [toN, okI_of K.2.2.1.1, K.2.2.1.2 j hj8]
      exact ⟨⟨by omega, by omega⟩, fun _ => ⟨by unfold inR; omega, fun u hu => ⟨_, by omega, (hJ _ _ _).mpr ⟨j + 1, by omega, rfl, by omega, rfl⟩⟩⟩, fun hne => absurd rfl hne⟩
  · have hkn : k < Nc c0 := by omega
    have d1 := dis_bd (c0 := c0) (c1 := c1) G hkn
    have d2 := (mfA_bd (c0 := c0) (c1 := c1) G (t := F) hkn).2.2.1
    rw [okI_of P.1, (P.2.2 k hkn).1]
    refine ⟨by unfold inR; omega, ⟨by omega, by omega⟩, ?_⟩
    refine jn_in (fun K52 hK52 => ?_)
    have go : K52 (disA c0 c1 st k) g := by
      rw [hK52]
      simp only
      refine ⟨by unfold inR; omega, fun u1' hu1 => ⟨by unfold inR; omega, by unfold inR; omega, by rw [okI_of H.1]; exact ⟨by omega, by omega⟩, ?_⟩⟩
      rw [(H.2.2 k hkn).2]
      exact ⟨by unfold inR; omega, fun u2 hu2 => ⟨by unfold inR; omega, fun u3 hu3 => ⟨_, by omega, (hI _ _ _ _ _).mpr ⟨k + 1, by omega, rfl, by rw [hu1, sN_s], by rw [hu2, sN_s], by omega, rfl⟩⟩⟩⟩
    rcases pf_cases (c1 := c1) (st := st) hkn with h4 | ⟨j, j1, j2, -⟩
    · have h4' : (prA c0 c1 st).1 k = -1 := h4.1
      have dj : disA c0 c1 st k = 0 := by unfold disA; rw [if_pos h4.1]
      rw [h4']
      exact ⟨fun h => absurd h (by omega), fun _ => by rw [← dj]; exact go⟩
    · have j2' : (prA c0 c1 st).1 k = (j : Int) := j2
      have dj : disA c0 c1 st k = dsL c0 c1 st k j := by unfold disA; rw [if_neg (by omega), j2, toN]
      rw [j2']
      refine ⟨fun _ => ⟨by unfold inR; omega, ⟨by omega, by omega⟩, l_far K hkn j1 ?_⟩, fun h => absurd (by omega) h⟩
      rw [← dj]; exact go
