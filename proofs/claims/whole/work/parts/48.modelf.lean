/-! THE PURE LAYER, 32: the model's frames as they are shown -/
theorem shP_up {c0 c1 st : Nat → Int} {F c : Nat} {f : Int} (hg : GS st) : ∀ m, m ≤ Nc c0 → (∀ j, j < m → plA c0 c1 st F j f ≠ (c : Int)) → shP c0 c1 st F f (Nc c0) c = shP c0 c1 st F f (Nc c0 - m) c := by
  intro m
  induction m with
  | zero => intro _ _; rfl
  | succ m ih =>
    intro hm h
    rw [ih (by omega) (fun j hj => h j (by omega))]
    obtain ⟨r, hr⟩ : ∃ r, r = Nc c0 - (m + 1) := ⟨_, rfl⟩
    rw [show Nc c0 - m = r + 1 by omega, ← hr]
    show (if plA c0 c1 st F (Nc c0 - 1 - r) f = -1 then shP c0 c1 st F f r else un (shP c0 c1 st F f r) (plA c0 c1 st F (Nc c0 - 1 - r) f).toNat (pcA c0 c1 st F (Nc c0 - 1 - r) f)) c = _
    rw [show Nc c0 - 1 - r = m by omega]
    have hm2 := h m (by omega)
    split
    · rfl
    next e =>
      have pb := pl_bd (c1 := c1) (F := F) (f := f) hg (show m < Nc c0 by omega) e
      rw [un_n (by omega)]
theorem shP_at {c0 c1 st : Nat → Int} {F k c : Nat} {f : Int} (hk : k < Nc c0) (h : plA c0 c1 st F k f = (c : Int)) : shP c0 c1 st F f (Nc c0 - k) c = pcA c0 c1 st F k f := by
  obtain ⟨r, hr⟩ : ∃ r, r = Nc c0 - (k + 1) := ⟨_, rfl⟩
  rw [show Nc c0 - k = r + 1 by omega]
  show (if plA c0 c1 st F (Nc c0 - 1 - r) f = -1 then shP c0 c1 st F f r else un (shP c0 c1 st F f r) (plA c0 c1 st F (Nc c0 - 1 - r) f).toNat (pcA c0 c1 st F (Nc c0 - 1 - r) f)) c = _
  rw [show Nc c0 - 1 - r = k by omega, h, if_neg (by omega), show ((c : Nat) : Int).toNat = c from rfl, un_s]
theorem shL_no {c0 c1 st : Nat → Int} {F c : Nat} {f : Int} : ∀ l, (∀ j, j < l → ¬ (ksA c0 c1 st j = 5 ∧ theA c0 c1 st F j ≤ f ∧ Lc c1 j = c)) → shL c0 c1 st F f l c = 32 := by
  intro l
  induction l with
  | zero => intro _; rfl
  | succ l ih =>
    intro h
    show (if ksA c0 c1 st l = 5 ∧ theA c0 c1 st F l ≤ f then un (shL c0 c1 st F f l) (Lc c1 l) (Ac c1 l) else shL c0 c1 st F f l) c = 32
    have i := ih (fun j hj => h j (by omega))
    split
    next e =>
      have : c ≠ Lc c1 l := fun e2 => h l (by omega) ⟨e.1, e.2, e2.symm⟩
      rw [un_n this]; exact i
    next => exact i
theorem shL_yes {c0 c1 st : Nat → Int} {F l : Nat} {f : Int} (hl : l < Nc c1) (h1 : ksA c0 c1 st l = 5) (h2 : theA c0 c1 st F l ≤ f) : ∀ m, l < m → m ≤ Nc c1 → shL c0 c1 st F f m (Lc c1 l) = Ac c1 l := by
  intro m
  induction m with
  | zero => intro h; omega
  | succ m ih =>
    intro hm hm2
    show (if ksA c0 c1 st m = 5 ∧ theA c0 c1 st F m ≤ f then un (shL c0 c1 st F f m) (Lc c1 m) (Ac c1 m) else shL c0 c1 st F f m) (Lc c1 l) = _
    by_cases e : l = m
    · subst e; rw [if_pos ⟨h1, h2⟩, un_s]
    · have i := ih (by omega) (by omega)
      split
      · have : Lc c1 l ≠ Lc c1 m := fun e2 => e (Lc_inj hl (by omega) e2)
        rw [un_n this]; exact i
      · exact i
theorem d_goneAt {zz : Nat → Nat} {y k : Nat} {h : AH} {Q : Int → AH → Prop} {c0 c1 st s2 : Nat → Int} (V : MV0 h y c0 c1 s2) (P : MP h y c0 c1 (prA c0 c1 st)) (e6 : s2 6 = st 6) (hk : k < Nc c0) (h4 : kfA c0 c1 st k = 4) (q : Q (gonA c0 c1 st k) h) : w_X7_goneAt zz y k h Q := by
  have K := V.1
  have h0 := V.2.2.2.1.n
  have n0 := V.2.2.1.1
  have g6 := V.2.2.2.2.2.2.2.2.2.2.2.1
  rw [e6] at g6
  obtain ⟨kt, kl, ⟨ka1, ka2, ka3, ka4, ka5, ka6, ka7, ka8, ka9, ka10, ka11, ka12, ka13, ka14, ka15, ka16⟩, ⟨kr1, kr2, kr3, kr4, kr5, kr6, kr7, kr8, kr9, kr10, kr11, kr12, kr13, kr14, kr15, kr16⟩⟩ := K
  have K := V.1
  unfold w_X7_goneAt
  refine ⟨by unfold inR; omega, ?_⟩
  intro x0 ex0
  obtain ⟨I, hI⟩ : ∃ I : Nat → Int → Int → AH → Prop, ∀ m x i h', I m x i h' ↔ ∃ j : Nat, k + 1 ≤ j ∧ j ≤ Nc c0 ∧ m = Nc c0 - j ∧ i = (j : Int) ∧ x = (cK (kfA c0 c1 st) j 4 : Int) - (cK (kfA c0 c1 st) (k + 1) 4 : Int) ∧ h' = h := ⟨_, fun _ _ _ _ => Iff.rfl⟩
  refine ⟨I, ⟨_, (hI _ _ _ _).mpr ⟨k + 1, Nat.le_refl _, by omega, rfl, by omega, by omega, rfl⟩⟩, ?_⟩
  intro m x i h' hi9
  obtain ⟨j, hj1, hj, rfl, rfl, rfl, rfl⟩ := (hI _ _ _ _).mp hi9
  have cs0 := cK_s (f := kfA c0 c1 st) (n := k) (v := 4)
  rw [if_pos h4] at cs0
  have cm := cK_mono (f := kfA c0 c1 st) (v := 4) hj1
  have cl := cK_le (f := kfA c0 c1 st) (n := j) (v := 4)
  refine ⟨by rw [okA_of kt], y + 4, kr4, by rw [okI_of ka4]; omega, ?_⟩
  rw [n0]
  refine ⟨fun hc => ⟨by rw [okA_of kt], d_of K V.2.1 (by omega) ?_⟩, fun hc => ?_⟩
  · obtain rfl : j = Nc c0 := by omega
    have e : s2 (6 : Int).toNat = st 6 := e6
    rw [e]
    refine ⟨by unfold inR; omega, by unfold inR; omega, ?_⟩
    unfold gonA at q
    rw [show (1 : Int) + st 6 + ((cK (kfA c0 c1 st) (Nc c0) 4 : Int) - (cK (kfA c0 c1 st) (k + 1) 4 : Int)) = st 6 + ((cK (kfA c0 c1 st) (Nc c0) 4 : Int) - (cK (kfA c0 c1 st) k 4 : Int)) by omega]
    exact q
  · have hj8 : j < Nc c0 := by omega
    have cs := cK_s (f := kfA c0 c1 st) (n := j) (v := 4)
    refine ⟨by rw [okA_of kt], y + 8, kr8, by rw [okI_of ka8]; omega, ?_⟩
    rw [jn_def, (P.1 j hj8).2]
    have go : ∀ t : Int, (cK (kfA c0 c1 st) j 4 : Int) + t = (cK (kfA c0 c1 st) (j + 1) 4 : Int) → 0 ≤ t ∧ t ≤ 1 → (inR ((cK (kfA c0 c1 st) j 4 : Int) - (cK (kfA c0 c1 st) (k + 1) 4 : Int) + t) ∧ ∀ x2_33 : Int, x2_33 = ((cK (kfA c0 c1 st) j 4 : Int) - (cK (kfA c0 c1 st) (k + 1) 4 : Int) + t) → inR ((j : Int) + 1) ∧ ∀ x3_34 : Int, x3_34 = ((j : Int) + 1) → ∃ m, m < Nc c0 - j ∧ I m x2_33 x3_34 h') := by
      intro t ht ht2
      exact ⟨by unfold inR; omega, fun x2 e2 => ⟨by unfold inR; omega, fun x3 e3 => ⟨Nc c0 - (j + 1), by omega, (hI _ _ _ _).mpr ⟨j + 1, by omega, by omega, rfl, by omega, by omega, rfl⟩⟩⟩⟩
    refine ⟨fun ne => go 0 ?_ (by omega), fun e2 => go 1 ?_ (by omega)⟩
    · rw [cs, if_neg ne]; omega
    · rw [cs, if_pos e2]; omega
theorem pf_ne {c0 c1 st : Nat → Int} {k : Nat} (hk : k < Nc c0) : pfA c0 c1 st k ≠ -1 ↔ kfA c0 c1 st k ≠ 4 := by
  rcases pf_cases (c1 := c1) (st := st) hk with h | ⟨j, hj, e1, -, -, b1, b2⟩
  · exact ⟨fun a => absurd h.1 a, fun a => absurd h.2 a⟩
  · exact ⟨fun _ => by omega, fun _ => by omega⟩
theorem mvd_lo {c0 c1 st : Nat → Int} {F : Nat} {f : Int} (h : f - sti c0 c1 st ≤ 0) : mvd c0 c1 st F f = 0 := by
  unfold mvd
  by_cases a : (F : Int) < f - sti c0 c1 st
  · omega
  · rw [if_neg a, if_neg (by omega)]; rfl
theorem mvd_hi {c0 c1 st : Nat → Int} {F : Nat} {f : Int} (h : (F : Int) ≤ f - sti c0 c1 st) : mvd c0 c1 st F f = F := by
  unfold mvd
  by_cases a : (F : Int) < f - sti c0 c1 st
  · rw [if_pos a]
    by_cases b : (0 : Int) < (F : Int)
    · rw [if_pos b]; rfl
    · rw [if_neg b]; show 0 = F; omega
  · rw [if_neg a]
    by_cases b : (0 : Int) < f - sti c0 c1 st
    · rw [if_pos b]; omega
    · rw [if_neg b]; show 0 = F; omega
theorem d_placeIn {zz : Nat → Nat} {y k F : Nat} {f : Int} {h : AH} {Q : Int → AH → Prop} {c0 c1 st : Nat → Int} (M : MLy h y c0 c1 st F) (hf : -10 ≤ f ∧ f ≤ 1000) (hk : k < Nc c0) (q : Q (plA c0 c1 st F k f) h) : w_X7_placeIn zz y f k h Q := by
  obtain ⟨V, P, ⟨M1, M2, M3⟩, iF⟩ := M
  have K := V.1
  have h0 := V.2.2.2.1.n
  have gs := V.2.2.2.2.2
  have sb := sti_bd (c0 := c0) (c1 := c1) gs h0
  obtain ⟨kt, kl, ⟨ka1, ka2, ka3, ka4, ka5, ka6, ka7, ka8, ka9, ka10, ka11, ka12, ka13, ka14, ka15, ka16⟩, ⟨kr1, kr2, kr3, kr4, kr5, kr6, kr7, kr8, kr9, kr10, kr11, kr12, kr13, kr14, kr15, kr16⟩⟩ := K
  have K := V.1
  have e5 := (V.2.2.1.2.2.1 k hk).1
  unfold w_X7_placeIn
  refine ⟨by rw [okA_of kt], y + 8, kr8, by rw [okI_of ka8]; omega, ?_⟩
  rw [(P.1 k hk).2]
  refine ⟨fun n4 => ⟨by rw [okA_of kt], d_firstMoving V P rfl ?_⟩, fun p4 => ⟨by rw [okA_of kt], d_goneAt V P rfl hk p4 ?_⟩⟩
  · have hpl : plA c0 c1 st F k f = (mfA c0 c1 st (mvd c0 c1 st F f)).1 k := by
      unfold plA; rw [if_neg (fun h => n4 h.1)]
    rw [hpl] at q
    have hn := (pf_ne (c1 := c1) (st := st) hk).mpr n4
    have gn := (gl_ne (c1 := c1) (st := st) hk).mpr hn
    refine ⟨by unfold inR; omega, ?_⟩
    intro mv emv
    rw [jn_def]
    refine ⟨fun hge => ⟨by rw [okA_of kt], ?_⟩, fun hlt => ⟨by rw [okA_of kt], y + 5, kr5, by rw [okI_of ka5]; omega, ?_⟩⟩
    · rw [M1]
      refine ⟨fun hFle => ⟨by rw [okA_of kt], d_goal V P hk hn ?_⟩, fun hFgt => ?_⟩
      · have em : mvd c0 c1 st F f = F := mvd_hi (by omega)
        rw [em] at q
        have e : (mfA c0 c1 st F).1 k = glM c0 c1 st k := by
          by_cases e : (mfA c0 c1 st F).1 k = glM c0 c1 st k
          · exact e
          · exact absurd iF.1.2.1 (Nat.ne_of_gt (cG_pos.mpr ⟨k, hk, gn, e⟩))
        rw [e] at q; exact q
      · obtain ⟨u, hu⟩ : ∃ u : Nat, mv = (u : Int) := ⟨mv.toNat, by omega⟩
        subst hu
        have hF := iF.2
        refine ⟨by rw [okA_of kt], y + 10, kr10, by unfold inR; omega, by unfold inR; omega, by rw [okI_of ka10]; omega, ?_⟩
        rw [(M3 u (by omega)).2 k hk]
        have em : mvd c0 c1 st F f = u + 1 := by
          unfold mvd
          rw [if_neg (show ¬ (F : Int) < f - sti c0 c1 st by omega), if_pos (by omega)]; omega
        rw [em] at q; exact q
    · rw [e5]
      have em : mvd c0 c1 st F f = 0 := mvd_lo (by omega)
      rw [em] at q; exact q
  · have gb := gon_bd (c1 := c1) gs h0 hk p4
    rw [jn_def]
    refine ⟨fun hle => ?_, fun hgt => ⟨by rw [okA_of kt], y + 5, kr5, by rw [okI_of ka5]; omega, ?_⟩⟩
    · unfold plA at q; rw [if_pos ⟨p4, hle⟩] at q; exact q
    · rw [e5]
      have hpl : plA c0 c1 st F k f = (mfA c0 c1 st (mvd c0 c1 st F f)).1 k := by
        unfold plA; rw [if_neg (fun h => hgt h.2)]
      have g2 : gonA c0 c1 st k ≤ sti c0 c1 st := by unfold gonA sti; omega
      have em : mvd c0 c1 st F f = 0 := mvd_lo (by omega)
      rw [hpl, em] at q; exact q
theorem d_shownOf {zz : Nat → Nat} {y k F : Nat} {f : Int} {h : AH} {Q : Int → AH → Prop} {c0 c1 st : Nat → Int} (M : MLy h y c0 c1 st F) (hf : -10 ≤ f ∧ f ≤ 1000) (hk : k < Nc c0) (q : Q (pcA c0 c1 st F k f) h) : w_X7_shownOf zz y f k h Q := by
  have M0 := M
  obtain ⟨V, P, ⟨M1, M2, M3⟩, iF⟩ := M
  have K := V.1
  have h0 := V.2.2.2.1.n
  have h1 := V.2.2.2.2.1.n
  have gs := V.2.2.2.2.2
  have sb := sti_bd (c0 := c0) (c1 := c1) gs h0
  obtain ⟨kt, kl, ⟨ka1, ka2, ka3, ka4, ka5, ka6, ka7, ka8, ka9, ka10, ka11, ka12, ka13, ka14, ka15, ka16⟩, ⟨kr1, kr2, kr3, kr4, kr5, kr6, kr7, kr8, kr9, kr10, kr11, kr12, kr13, kr14, kr15, kr16⟩⟩ := K
  have K := V.1
  unfold w_X7_shownOf
  obtain ⟨H, hH⟩ : ∃ H : Prop, H = (kfA c0 c1 st k = 3 ∧ 0 < mvd c0 c1 st F f ∧ (mfA c0 c1 st (mvd c0 c1 st F f)).1 k = glM c0 c1 st k) := ⟨_, rfl⟩
  have hB : ∃ b : Bool, (b = true ↔ H) := by
    by_cases h : H
    · exact ⟨true, fun _ => h, fun _ => rfl⟩
    · exact ⟨false, fun e => absurd e Bool.false_ne_true, fun e => absurd e h⟩
  obtain ⟨b, hb⟩ := hB
  refine ⟨by rw [okA_of kt], y + 8, kr8, by rw [okI_of ka8]; omega, jn_a1 (if b = true then 1 else 0) h (fun g hg => ?_) ?_⟩
  · have no : ¬ H → g 0 h := fun hn => by rw [if_neg (fun e => hn (hb.mp e))] at hg; exact hg
    rw [jn_def, (P.1 k hk).2]
    refine ⟨fun n3 => no (fun h => by rw [hH] at h; exact n3 h.1), fun p3 => ⟨by rw [okA_of kt], d_firstMoving V P rfl ⟨fun hlt => no (fun h => ?_), fun hge => ⟨by rw [okA_of kt], d_placeIn M0 hf hk ?_⟩⟩⟩⟩
    · rw [hH] at h
      have := h.2.1
      rw [mvd_lo (by omega)] at this
      omega
    · have p3 : kfA c0 c1 st k = 3 := p3
      have hn := (pf_ne (c1 := c1) (st := st) hk).mpr (by omega)
      have hpl : plA c0 c1 st F k f = (mfA c0 c1 st (mvd c0 c1 st F f)).1 k := by
        unfold plA; rw [if_neg (fun h => by have := h.1; omega)]
      rw [hpl]
      refine ⟨by rw [okA_of kt], d_goal V P hk hn ⟨fun ne => no (fun h => ?_), fun e => ?_⟩⟩
      · rw [hH] at h; exact ne h.2.2
      · have t0 := iF.1.1
        rw [if_pos (cK_pos.mpr ⟨k, hk, p3⟩)] at t0
        have hm : 0 < mvd c0 c1 st F f := by
          unfold mvd
          split
          · split <;> omega
          · split at * <;> omega
        rw [if_pos (hb.mpr (by rw [hH]; exact ⟨p3, hm, e⟩))] at hg; exact hg
  · rw [jn_def]
    unfold pcA at q
    cases b with
    | true =>
      have hh := hb.mp rfl
      rw [hH] at hh
      rw [if_pos hh] at q
      rcases pf_cases (c1 := c1) (st := st) hk with h | ⟨j, hj, e1, -⟩
      · have := h.2; have := hh.1; omega
      have e1' : (prA c0 c1 st).1 k = (j : Int) := e1
      rw [show (pfA c0 c1 st k).toNat = j by omega] at q
      refine ⟨fun h => absurd h (by decide), fun _ => ⟨by rw [okA_of kt], y + 6, kr6, by rw [okA_of kt], y + 7, kr7, by rw [okI_of ka7]; omega, ?_⟩⟩
      rw [(P.1 k hk).1, e1']
      refine ⟨by unfold inR; omega, by rw [okI_of ka6]; omega, ?_⟩
      rw [(V.2.2.1.2.2.2 j hj).2]; exact q
    | false =>
      have hh : ¬ H := fun h => absurd (hb.mpr h) Bool.false_ne_true
      rw [hH] at hh
      rw [if_neg hh] at q
      refine ⟨fun _ => ⟨by rw [okA_of kt], y + 6, kr6, by rw [okI_of ka6]; omega, ?_⟩, fun h => absurd rfl h⟩
      rw [(V.2.2.1.2.2.1 k hk).2]; exact q
set_option maxHeartbeats 2000000 in
theorem d_shown {zz : Nat → Nat} {y c F : Nat} {f : Int} {h : AH} {Q : Int → AH → Prop} {c0 c1 st : Nat → Int} (M : MLy h y c0 c1 st F) (hf : -10 ≤ f ∧ f ≤ 1000) (q : Q (shA c0 c1 st F f c) h) : w_X7_shown zz y f c h Q := by
  have M0 := M
  obtain ⟨V, P, ⟨M1, M2, M3⟩, iF⟩ := M
  have K := V.1
  have h0 := V.2.2.2.1.n
  have h1 := V.2.2.2.2.1.n
  have gs := V.2.2.2.2.2
  have sb := sti_bd (c0 := c0) (c1 := c1) gs h0
  have hF := iF.2
  obtain ⟨kt, kl, ⟨ka1, ka2, ka3, ka4, ka5, ka6, ka7, ka8, ka9, ka10, ka11, ka12, ka13, ka14, ka15, ka16⟩, ⟨kr1, kr2, kr3, kr4, kr5, kr6, kr7, kr8, kr9, kr10, kr11, kr12, kr13, kr14, kr15, kr16⟩⟩ := K
  have K := V.1
  have n0 := V.2.2.1.1
  have n1 := V.2.2.1.2.1
  unfold shA at q
  unfold w_X7_shown
  obtain ⟨I, hI⟩ : ∃ I : Nat → Int → AH → Prop, ∀ m i h', I m i h' ↔ ∃ k : Nat, k ≤ Nc c0 ∧ m = Nc c0 - k ∧ i = (k : Int) ∧ h' = h ∧ ∀ j, j < k → plA c0 c1 st F j f ≠ (c : Int) := ⟨_, fun _ _ _ => Iff.rfl⟩
  refine ⟨I, ⟨_, (hI _ _ _).mpr ⟨0, by omega, rfl, rfl, rfl, fun j hj => by omega⟩⟩, ?_⟩
  intro m i h' hi9
  obtain ⟨k, hk, rfl, rfl, rfl, no⟩ := (hI _ _ _).mp hi9
  refine ⟨by rw [okA_of kt], y + 4, kr4, by rw [okI_of ka4]; omega, ?_⟩
  rw [n0]
  refine ⟨fun hc => ⟨by rw [okA_of kt], d_firstMoving V P rfl ?_⟩, fun hc => ?_⟩
  · obtain rfl : k = Nc c0 := by omega
    rw [shP_up gs _ (Nat.le_refl _) no, Nat.sub_self] at q
    have q : Q (shL c0 c1 st F f (Nc c1) c) h' := q
    rw [M1]
    refine ⟨by unfold inR; omega, by rw [okA_of kt], by unfold inR; omega, by unfold inR; omega, ?_⟩
    intro x0 ex0
    obtain ⟨J, hJ⟩ : ∃ J : Nat → Int → Int → AH → Prop, ∀ m x i g, J m x i g ↔ ∃ l : Nat, l ≤ Nc c1 ∧ m = Nc c1 - l ∧ i = (l : Int) ∧ x = f - sti c0 c1 st - (F : Int) - (cK (ksA c0 c1 st) l 5 : Int) ∧ g = h' ∧ ∀ j, j < l → ¬ (ksA c0 c1 st j = 5 ∧ theA c0 c1 st F j ≤ f ∧ Lc c1 j = c) := ⟨_, fun _ _ _ _ => Iff.rfl⟩
    refine ⟨J, ⟨_, (hJ _ _ _ _).mpr ⟨0, by omega, rfl, rfl, by unfold cK; omega, rfl, fun j hj => by omega⟩⟩, ?_⟩
    intro m x i g hj9
    obtain ⟨l, hl, rfl, rfl, rfl, rfl, no2⟩ := (hJ _ _ _ _).mp hj9
    have cl := cK_le (f := ksA c0 c1 st) (n := l) (v := 5)
    refine ⟨by rw [okA_of kt], y + 4, kr4, by rw [okI_of ka4]; omega, ?_⟩
    rw [n1]
    refine ⟨fun hc2 => ?_, fun hc2 => ?_⟩
    · obtain rfl : l = Nc c1 := by omega
      rw [shL_no _ no2] at q; exact q
    · have hl8 : l < Nc c1 := by omega
      have cs := cK_s (f := ksA c0 c1 st) (n := l) (v := 5)
      have P2 : haI g (y + 8) ((40 : Int) + (l : Int)) = ksA c0 c1 st l := (P.2 l hl8).2
      obtain ⟨a5, a6⟩ := V.2.2.1.2.2.2 l hl8
      have ht : ksA c0 c1 st l = 5 → theA c0 c1 st F l = sti c0 c1 st + (F : Int) + (cK (ksA c0 c1 st) l 5 : Int) + 1 := fun e => by
        unfold theA; rw [cs, if_pos e]; omega
      refine ⟨by rw [okA_of kt], y + 8, kr8, by unfold inR; omega, by rw [okI_of ka8]; omega, ?_⟩
      rw [P2, jn_def]
      have step : ¬ (ksA c0 c1 st l = 5 ∧ theA c0 c1 st F l ≤ f ∧ Lc c1 l = c) → ∀ x3 : Int, x3 = f - sti c0 c1 st - (F : Int) - (cK (ksA c0 c1 st) (l + 1) 5 : Int) → (inR ((l : Int) + 1) ∧ ∀ x4_109 : Int, x4_109 = ((l : Int) + 1) → ∃ m, m < Nc c1 - l ∧ J m x3 x4_109 g) := by
        intro hno x3 e3
        refine ⟨by unfold inR; omega, fun x4 e4 => ⟨Nc c1 - (l + 1), by omega, (hJ _ _ _ _).mpr ⟨l + 1, by omega, rfl, by omega, e3, rfl, fun j hj => ?_⟩⟩⟩
        by_cases e : j = l
        · rw [e]; exact hno
        · exact no2 j (by omega)
      refine ⟨fun n5 => step (fun h => n5 h.1) _ (by rw [cs, if_neg n5]; omega), fun p5 => ?_⟩
      have ht := ht p5
      rw [if_pos p5] at cs
      rw [jn_def]
      refine ⟨fun hle => ⟨by unfold inR; omega, fun x3 e3 => step (fun h => by have := h.2.1; omega) x3 (by omega)⟩, fun hgt => ⟨by rw [okA_of kt], y + 5, kr5, by unfold inR; omega, by rw [okI_of ka5]; omega, ?_⟩⟩
      rw [a5]
      refine ⟨fun ne => ⟨by unfold inR; omega, fun x3 e3 => step (fun h => ne (by have := h.2.2; omega)) x3 (by omega)⟩, fun e => ⟨by rw [okA_of kt], y + 6, kr6, by unfold inR; omega, by rw [okI_of ka6]; omega, ?_⟩⟩
      rw [a6]
      have e2 : c = Lc c1 l := by omega
      rw [e2, shL_yes hl8 p5 (by omega) _ hl8 (Nat.le_refl _)] at q
      exact q
  · have hk8 : k < Nc c0 := by omega
    refine ⟨by rw [okA_of kt], d_placeIn M0 hf hk8 ⟨fun ne => ⟨by unfold inR; omega, fun x4 e4 => ⟨Nc c0 - (k + 1), by omega, (hI _ _ _).mpr ⟨k + 1, by omega, rfl, by omega, rfl, fun j hj => ?_⟩⟩⟩, fun e => ⟨by rw [okA_of kt], d_shownOf M0 hf hk8 ?_⟩⟩⟩
    · by_cases e : j = k
      · rw [e]; exact ne
      · exact no j (by omega)
    · rw [shP_up gs k hk no, shP_at hk8 e] at q; exact q
theorem d_piecesIn {zz : Nat → Nat} {y c F : Nat} {f : Int} {h : AH} {Q : Int → AH → Prop} {c0 c1 st : Nat → Int} (M : MLy h y c0 c1 st F) (hf : -10 ≤ f ∧ f ≤ 1000) (q : Q (pcN c0 c1 st F f (Nc c0) c : Int) h) : w_X7_piecesIn zz y f c h Q := by
  have M0 := M
  obtain ⟨V, P, -⟩ := M
  have K := V.1
  have h0 := V.2.2.2.1.n
  obtain ⟨kt, kl, ⟨ka1, ka2, ka3, ka4, ka5, ka6, ka7, ka8, ka9, ka10, ka11, ka12, ka13, ka14, ka15, ka16⟩, ⟨kr1, kr2, kr3, kr4, kr5, kr6, kr7, kr8, kr9, kr10, kr11, kr12, kr13, kr14, kr15, kr16⟩⟩ := K
  have n0 := V.2.2.1.1
  unfold w_X7_piecesIn
  obtain ⟨I, hI⟩ : ∃ I : Nat → Int → Int → AH → Prop, ∀ m x i h', I m x i h' ↔ ∃ k : Nat, k ≤ Nc c0 ∧ m = Nc c0 - k ∧ i = (k : Int) ∧ x = (pcN c0 c1 st F f k c : Int) ∧ h' = h := ⟨_, fun _ _ _ _ => Iff.rfl⟩
  refine ⟨I, ⟨_, (hI _ _ _ _).mpr ⟨0, by omega, rfl, rfl, rfl, rfl⟩⟩, ?_⟩
  intro m x i h' hi9
  obtain ⟨k, hk, rfl, rfl, rfl, rfl⟩ := (hI _ _ _ _).mp hi9
  refine ⟨by rw [okA_of kt], y + 4, kr4, by rw [okI_of ka4]; omega, ?_⟩
  rw [n0]
  refine ⟨fun hc => ?_, fun hc => ?_⟩
  · obtain rfl : k = Nc c0 := by omega
    exact q
  · have hk8 : k < Nc c0 := by omega
    have cs := pcN_s (c0 := c0) (c1 := c1) (st := st) (F := F) (f := f) (n := k) (c := c)
    have cl := pcN_le (c0 := c0) (c1 := c1) (st := st) (F := F) (f := f) (n := k) (c := c)
    refine ⟨by rw [okA_of kt], d_placeIn M0 hf hk8 ?_⟩
    rw [jn_def]
    have go : ∀ t : Int, (pcN c0 c1 st F f k c : Int) + t = (pcN c0 c1 st F f (k + 1) c : Int) → 0 ≤ t ∧ t ≤ 1 → (inR ((pcN c0 c1 st F f k c : Int) + t) ∧ ∀ x3_34 : Int, x3_34 = ((pcN c0 c1 st F f k c : Int) + t) → inR ((k : Int) + 1) ∧ ∀ x4_35 : Int, x4_35 = ((k : Int) + 1) → ∃ m, m < Nc c0 - k ∧ I m x3_34 x4_35 h') := by
      intro t ht ht2
      exact ⟨by unfold inR; omega, fun x2 e2 => ⟨by unfold inR; omega, fun x3 e3 => ⟨Nc c0 - (k + 1), by omega, (hI _ _ _ _).mpr ⟨k + 1, by omega, rfl, by omega, by omega, rfl⟩⟩⟩⟩
    refine ⟨fun ne => go 0 ?_ (by omega), fun e2 => go 1 ?_ (by omega)⟩
    · rw [cs, if_neg ne]; omega
    · rw [cs, if_pos e2]; omega
