/-! SECOND LAW, 8: what a cell shows -/
section SHN
variable {c0 c1 st : Nat → Int} {F c : Nat} {f : Int}
theorem ks5 {j : Nat} (hj : j < Nc c1) : ksA c0 c1 st j = 5 ↔ psA c0 c1 st j = -1 := by
  rcases ps_cases (c0 := c0) (st := st) hj with h | ⟨i, h1, h2, h3⟩
  · exact ⟨fun _ => h.1, fun _ => h.2⟩
  · constructor
    · intro h
      rcases pf_cases (c1 := c1) (st := st) h1 with h4 | ⟨j2, k1, k2, k3, k4, k5, k6⟩
      · omega
      · have : j2 = j := by omega
        subst this; omega
    · intro h; omega
theorem shP_hit {i : Nat} (hi : i < Nc c0) (h : plA c0 c1 st F i f = (c : Int)) (hps : ∀ a, a < Nc c0 → plA c0 c1 st F a f = -1 ∨ 0 ≤ plA c0 c1 st F a f) : ∀ r, r ≤ Nc c0 → Nc c0 - r ≤ i → (∀ a, Nc c0 - r ≤ a → a < i → plA c0 c1 st F a f ≠ (c : Int)) → shP c0 c1 st F f r c = pcA c0 c1 st F i f := by
  intro r
  induction r with
  | zero => intro _ h1; omega
  | succ r ih =>
    intro hr h1 h2
    show (if plA c0 c1 st F (Nc c0 - 1 - r) f = -1 then shP c0 c1 st F f r else un (shP c0 c1 st F f r) (plA c0 c1 st F (Nc c0 - 1 - r) f).toNat (pcA c0 c1 st F (Nc c0 - 1 - r) f)) c = _
    by_cases e : Nc c0 - 1 - r = i
    · rw [e, h, if_neg (by omega), toN, un_s]
    · have z := ih (by omega) (by omega) (fun a h3 h4 => h2 a (by omega) h4)
      have ne := h2 (Nc c0 - 1 - r) (by omega) (by omega)
      have ps := hps (Nc c0 - 1 - r) (by omega)
      split
      · exact z
      · rw [un_n (by omega)]; exact z
theorem shP_miss : ∀ r, r ≤ Nc c0 → (∀ a, Nc c0 - r ≤ a → a < Nc c0 → plA c0 c1 st F a f ≠ (c : Int)) → (∀ a, a < Nc c0 → plA c0 c1 st F a f = -1 ∨ 0 ≤ plA c0 c1 st F a f) → shP c0 c1 st F f r c = shL c0 c1 st F f (Nc c1) c := by
  intro r
  induction r with
  | zero => intro _ _ _; rfl
  | succ r ih =>
    intro hr h2 h3
    show (if plA c0 c1 st F (Nc c0 - 1 - r) f = -1 then shP c0 c1 st F f r else un (shP c0 c1 st F f r) (plA c0 c1 st F (Nc c0 - 1 - r) f).toNat (pcA c0 c1 st F (Nc c0 - 1 - r) f)) c = _
    have z := ih (by omega) (fun a h4 h5 => h2 a (by omega) h5) h3
    have ne := h2 (Nc c0 - 1 - r) (by omega) (by omega)
    have ps := h3 (Nc c0 - 1 - r) (by omega)
    split
    · exact z
    · rw [un_n (by omega)]; exact z
theorem shL_miss : ∀ l, (∀ a, a < l → ¬ (ksA c0 c1 st a = 5 ∧ theA c0 c1 st F a ≤ f ∧ Lc c1 a = c)) → shL c0 c1 st F f l c = 32 := by
  intro l
  induction l with
  | zero => intro _; rfl
  | succ l ih =>
    intro h
    show (if ksA c0 c1 st l = 5 ∧ theA c0 c1 st F l ≤ f then un (shL c0 c1 st F f l) (Lc c1 l) (Ac c1 l) else shL c0 c1 st F f l) c = 32
    have z := ih (fun a ha => h a (by omega))
    have n := h l (by omega)
    split
    next e => rw [un_n (fun h2 => n ⟨e.1, e.2, h2.symm⟩)]; exact z
    next => exact z
theorem shL_hit {l : Nat} (h1 : ksA c0 c1 st l = 5) (h2 : theA c0 c1 st F l ≤ f) (h3 : Lc c1 l = c) : ∀ d, l + d < Nc c1 → shL c0 c1 st F f (l + d + 1) c = Ac c1 l := by
  intro d
  induction d with
  | zero =>
    intro _
    show (if ksA c0 c1 st l = 5 ∧ theA c0 c1 st F l ≤ f then un (shL c0 c1 st F f l) (Lc c1 l) (Ac c1 l) else shL c0 c1 st F f l) c = _
    rw [if_pos ⟨h1, h2⟩, h3, un_s]
  | succ d ih =>
    intro hd
    have z := ih (by omega)
    show (if ksA c0 c1 st (l + d + 1) = 5 ∧ theA c0 c1 st F (l + d + 1) ≤ f then un (shL c0 c1 st F f (l + d + 1)) (Lc c1 (l + d + 1)) (Ac c1 (l + d + 1)) else shL c0 c1 st F f (l + d + 1)) c = _
    split
    · rw [un_n (fun h4 => by
        have := Lc_inj (c := c1) (i := l + d + 1) (j := l) (by omega) (by omega) (by omega)
        omega)]
      exact z
    · exact z
theorem pl_pos (hg : GS st) {a : Nat} (ha : a < Nc c0) : plA c0 c1 st F a f = -1 ∨ 0 ≤ plA c0 c1 st F a f := by
  by_cases e : plA c0 c1 st F a f = -1
  · exact .inl e
  · exact .inr (pl_bd hg ha e).1
theorem sh_hit {i : Nat} (hg : GS st) (hi : i < Nc c0) (h : plA c0 c1 st F i f = (c : Int)) (hn : ∀ a, a < i → plA c0 c1 st F a f ≠ (c : Int)) : shA c0 c1 st F f c = pcA c0 c1 st F i f := shP_hit hi h (fun a ha => pl_pos hg ha) (Nc c0) (Nat.le_refl _) (by omega) (fun a _ h2 => hn a h2)
theorem sh_miss (hg : GS st) (hn : ∀ a, a < Nc c0 → plA c0 c1 st F a f ≠ (c : Int)) : shA c0 c1 st F f c = shL c0 c1 st F f (Nc c1) c := shP_miss (Nc c0) (Nat.le_refl _) (fun a _ h => hn a h) (fun a ha => pl_pos hg ha)
theorem shL_is {l : Nat} (hl : l < Nc c1) (h1 : ksA c0 c1 st l = 5) (h2 : theA c0 c1 st F l ≤ f) (h3 : Lc c1 l = c) : shL c0 c1 st F f (Nc c1) c = Ac c1 l := by
  have := shL_hit (F := F) (f := f) h1 h2 h3 (Nc c1 - 1 - l) (by omega)
  rw [show l + (Nc c1 - 1 - l) + 1 = Nc c1 by omega] at this
  exact this
end SHN
set_option maxHeartbeats 1000000 in
theorem l_shown {zz : Nat → Nat} {b p r F c : Nat} {f come mv : Int} {h : AH} {Q : Int → AH → Prop} {c0 c1 st : Nat → Int} (K : LK h b c0 c1 st) (P : PaR h p (Nc c0) (prA c0 c1 st).1 (prA c0 c1 st).2.2.1) (R : PoR h r (Nc c0) (fun i => plA c0 c1 st F i f)) (hmv : ∀ i, i < Nc c0 → kfA c0 c1 st i = 3 → (mv ≠ 0 ↔ 0 < mvd c0 c1 st F f)) (hcome : ∀ l, l < Nc c1 → ksA c0 c1 st l = 5 → ((cK (ksA c0 c1 st) l 5 : Int) < come ↔ theA c0 c1 st F l ≤ f)) (q : Q (shA c0 c1 st F f c) h) : w_L_shown zz c come mv b (b + 1) (b + 2) p r h Q := by
  have Kz := K
  have Pz := P
  obtain ⟨⟨⟨k0, t0⟩, ⟨k1, t1⟩⟩, ⟨k2, d0, d1⟩, -, -, ⟨n8, m8⟩, -, -, G⟩ := K
  obtain ⟨kp, -, P⟩ := P
  obtain ⟨kr, -, R⟩ := R
  unfold w_L_shown
  obtain ⟨I, hI⟩ : ∃ I : Nat → Int → AH → Prop, ∀ m x g, I m x g ↔ ∃ k : Nat, k ≤ Nc c0 ∧ m = Nc c0 - k ∧ x = (k : Int) ∧ g = h ∧ ∀ a, a < k → plA c0 c1 st F a f ≠ (c : Int) := ⟨_, fun _ _ _ => Iff.rfl⟩
  refine ⟨I, ⟨_, (hI _ _ _).mpr ⟨0, Nat.zero_le _, rfl, rfl, rfl, fun a ha => absurd ha (Nat.not_lt_zero _)⟩⟩, ?_⟩
  intro m x g hi9
  obtain ⟨k, hk, rfl, rfl, eg, hno⟩ := (hI _ _ _).mp hi9
  subst eg
  rw [okI_of k2, d0]
  refine ⟨⟨by omega, by omega⟩, fun hc => ?_, fun hc => ?_⟩
  · have hkn : k = Nc c0 := by omega
    subst hkn
    rw [sh_miss G hno] at q
    obtain ⟨J, hJ⟩ : ∃ J : Nat → Int → Int → AH → Prop, ∀ m x y g', J m x y g' ↔ ∃ j : Nat, j ≤ Nc c1 ∧ m = Nc c1 - j ∧ x = (cK (ksA c0 c1 st) j 5 : Int) ∧ y = (j : Int) ∧ g' = g ∧ ∀ a, a < j → ¬ (ksA c0 c1 st a = 5 ∧ theA c0 c1 st F a ≤ f ∧ Lc c1 a = c) := ⟨_, fun _ _ _ _ => Iff.rfl⟩
    refine ⟨J, ⟨_, (hJ _ _ _ _).mpr ⟨0, Nat.zero_le _, rfl, rfl, rfl, rfl, fun a ha => absurd ha (Nat.not_lt_zero _)⟩⟩, ?_⟩
    intro m2 x2 y2 g2 hj9
    obtain ⟨j, hj, rfl, rfl, rfl, eg, jno⟩ := (hJ _ _ _ _).mp hj9
    subst eg
    have cb := cK_le (f := ksA c0 c1 st) (n := j) (v := 5)
    rw [okI_of k2, d1]
    refine ⟨⟨by omega, by omega⟩, fun hc2 => ?_, fun hc2 => ?_⟩
    · have : j = Nc c1 := by omega
      subst this
      rw [shL_miss _ jno] at q
      exact q
    have hjn : j < Nc c1 := by omega
    refine l_taken k2 d0 Pz pw_A n8 hjn ?_
    refine jn_in (fun K146 hK146 => ?_)
    have nxt : ∀ v : Int, v = (cK (ksA c0 c1 st) (j + 1) 5 : Int) → ¬ (ksA c0 c1 st j = 5 ∧ theA c0 c1 st F j ≤ f ∧ Lc c1 j = c) → K146 v g2 := by
      intro v hv hn
      rw [hK146]
      exact ⟨by unfold inR; omega, fun u hu => ⟨_, by omega, (hJ _ _ _ _).mpr ⟨j + 1, by omega, rfl, hv, by omega, rfl, fun a ha => by
        by_cases ea : a = j
        · rw [ea]; exact hn
        · exact jno a (by omega)⟩⟩⟩
    have k5 := ks5 (c0 := c0) (st := st) hjn
    by_cases e5 : psA c0 c1 st j = -1
    · have e5' : (prA c0 c1 st).2.1 j = -1 := e5
      rw [if_pos e5']
      have hk5 := k5.mpr e5
      have s5 : cK (ksA c0 c1 st) (j + 1) 5 = cK (ksA c0 c1 st) j 5 + 1 := by rw [cK_s, if_pos hk5]
      refine ⟨fun _ => ?_, fun h => absurd rfl h⟩
      refine jn_in (fun K143 hK143 => ?_)
      have n143 : ¬ (theA c0 c1 st F j ≤ f ∧ Lc c1 j = c) → K143 g2 := by
        intro hn
        rw [hK143]
        exact ⟨by unfold inR; omega, fun v hv => nxt v (by rw [hv, s5]; omega) (fun h => hn h.2)⟩
      have hcj := hcome j hjn hk5
      refine ⟨fun hle => n143 (fun h => by have := hcj.mpr h.1; omega), fun hlt => ?_⟩
      have hth := hcj.mp (by omega)
      rw [okI_of k1, (t1 j hjn).1]
      refine ⟨by unfold inR; omega, ⟨by omega, by omega⟩, fun hne => n143 (fun h => hne (by rw [h.2])), fun heq => ⟨by unfold inR; omega, by unfold inR; omega, by rw [okI_of k1]; exact ⟨by omega, by omega⟩, ?_⟩⟩
      rw [(t1 j hjn).2]
      rw [shL_is hjn hk5 hth (by omega)] at q
      exact q
    · have e5' : ¬ (prA c0 c1 st).2.1 j = -1 := e5
      rw [if_neg e5']
      have hk5 : ¬ ksA c0 c1 st j = 5 := fun h => e5 (k5.mp h)
      exact ⟨fun h => absurd h (by omega), fun _ => nxt _ (by rw [cK_s, if_neg hk5]; omega) (fun h => hk5 h.1)⟩
  · have hkn : k < Nc c0 := by omega
    have rk : haI g r (k : Int) = plA c0 c1 st F k f := R k hkn
    rw [okI_of kr, rk]
    refine ⟨⟨by omega, by omega⟩, fun hne => ⟨by unfold inR; omega, fun u hu => ⟨_, by omega, (hI _ _ _).mpr ⟨k + 1, by omega, rfl, by omega, rfl, fun a ha => ?_⟩⟩⟩, fun heq => ?_⟩
    · by_cases ea : a = k
      · rw [ea]; exact hne
      · exact hno a (by omega)
    rw [sh_hit G hkn heq hno] at q
    have pk2 := (P k hkn).2
    have pk1 := (P k hkn).1
    have plk : plA c0 c1 st F k f = (mfA c0 c1 st (mvd c0 c1 st F f)).1 k := by
      unfold plA at heq ⊢
      split at heq
      · omega
      next e => rw [if_neg e]
    unfold pcA at q
    rw [← plk, heq] at q
    rw [okI_of kp, pk2]
    refine ⟨by unfold inR; omega, by unfold inR; omega, ⟨by omega, by omega⟩, ?_⟩
    refine jn_in (fun K79 hK79 => ?_)
    refine jn_in (fun K71 hK71 => ?_)
    have old : ¬ (kfA c0 c1 st k = 3 ∧ 0 < mvd c0 c1 st F f ∧ (c : Int) = glM c0 c1 st k) → K71 g := by
      intro hn
      rw [hK71]
      simp only
      rw [okI_of k0, (t0 k hkn).2, hK79]
      rw [if_neg hn] at q
      exact ⟨by unfold inR; omega, by unfold inR; omega, ⟨by omega, by omega⟩, q⟩
    refine ⟨fun h3 => old (fun h => h3 h.1), fun h3 => ⟨fun hm0 => old (fun h => (hmv k hkn h3).mpr h.2.1 hm0), fun hm0 => ?_⟩⟩
    obtain ⟨j, j1, j2, j3⟩ : ∃ j, j < Nc c1 ∧ pfA c0 c1 st k = (j : Int) ∧ glM c0 c1 st k = (Lc c1 j : Int) := by
      rcases gl_of (c1 := c1) (pw_A (c0 := c0) (st := st)) hkn with ⟨h1, h2⟩ | h
      · have := (pw_free (pw_A (c0 := c0) (c1 := c1) (st := st)) hkn).mp h1
        have h3 : (prA c0 c1 st).2.2.1 k = 3 := h3
        omega
      · exact h
    have j2' : (prA c0 c1 st).1 k = (j : Int) := j2
    rw [okI_of kp, pk1, j2', okI_of k1, (t1 j j1).1]
    refine ⟨by unfold inR; omega, ⟨by omega, by omega⟩, by unfold inR; omega, ⟨by omega, by omega⟩, fun hne => old (fun h => by omega), fun heq2 => ?_⟩
    rw [if_pos ⟨h3, (hmv k hkn h3).mp hm0, by omega⟩, j2, toN] at q
    rw [okI_of k1, (t1 j j1).2, hK79]
    exact ⟨by unfold inR; omega, ⟨by omega, by omega⟩, by unfold inR; omega, by unfold inR; omega, ⟨by omega, by omega⟩, q⟩
