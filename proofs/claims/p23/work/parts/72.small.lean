/-! SECOND LAW, 3: the law's arrays; its small methods -/
/-- a text in the law's array at q -/
def TxL (h : AH) (q : Nat) (c : Nat → Int) : Prop := hkd h q = (1, 18) ∧ ∀ i : Nat, i < Nc c → haI h q (2 * (i : Int)) = (Lc c i : Int) ∧ haI h q (2 * (i : Int) + 1) = Ac c i
/-- both texts, their sizes, the settings, at b and the three behind it -/
def LK (h : AH) (b : Nat) (c0 c1 st : Nat → Int) : Prop := (TxL h b c0 ∧ TxL h (b + 1) c1) ∧ (hkd h (b + 2) = (1, 3) ∧ haI h (b + 2) 0 = (Nc c0 : Int) ∧ haI h (b + 2) 1 = (Nc c1 : Int)) ∧ (hkd h (b + 3) = (1, 8) ∧ ∀ k : Nat, k < 8 → haI h (b + 3) k = st k) ∧ hlo h ≤ b ∧ (Nc c0 ≤ 8 ∧ Nc c1 ≤ 8) ∧ GC c0 ∧ GC c1 ∧ GS st
theorem LK.cong {h h' : AH} {b : Nat} {c0 c1 st : Nat → Int} (K : LK h b c0 c1 st) (lo : hlo h' = hlo h) (e : ∀ q, b ≤ q → q < b + 4 → hkd h' q = hkd h q ∧ haI h' q = haI h q) : LK h' b c0 c1 st := by
  unfold LK TxL at *
  rw [(e b (by omega) (by omega)).1, (e b (by omega) (by omega)).2, (e (b + 1) (by omega) (by omega)).1, (e (b + 1) (by omega) (by omega)).2, (e (b + 2) (by omega) (by omega)).1, (e (b + 2) (by omega) (by omega)).2, (e (b + 3) (by omega) (by omega)).1, (e (b + 3) (by omega) (by omega)).2, lo]
  exact K
theorem LK.fr {h h' : AH} {b u v : Nat} {c0 c1 st : Nat → Int} (K : LK h b c0 c1 st) (F : Fr h h' u v) (hr : v ≤ b ∨ b + 4 ≤ u) : LK h' b c0 c1 st := K.cong F.lo (fun q h1 h2 => ⟨by rw [F.kd], F.ai (by omega)⟩)
theorem LK.ga {h h' : AH} {b u v : Nat} {c0 c1 st : Nat → Int} (K : LK h b c0 c1 st) (F : Ga h h' u v) (hr : v ≤ b ∨ b + 4 ≤ u) : LK h' b c0 c1 st := K.cong F.2.1 (fun q h1 h2 => ⟨by rw [F.1], (F.2.2.2 q (by omega)).2.2.2.1⟩)
/-- two numbers a piece, at p -/
def PaR (h : AH) (p n : Nat) (f1 f2 : Nat → Int) : Prop := hkd h p = (1, 16) ∧ hlo h ≤ p ∧ ∀ i : Nat, i < n → haI h p (2 * (i : Int)) = f1 i ∧ haI h p (2 * (i : Int) + 1) = f2 i
theorem PaR.cong {h h' : AH} {p n : Nat} {f1 f2 : Nat → Int} (P : PaR h p n f1 f2) (lo : hlo h' = hlo h) (e : hkd h' p = hkd h p ∧ haI h' p = haI h p) : PaR h' p n f1 f2 := by
  unfold PaR at *
  rw [e.1, e.2, lo]; exact P
theorem PaR.fr {h h' : AH} {p n u v : Nat} {f1 f2 : Nat → Int} (P : PaR h p n f1 f2) (F : Fr h h' u v) (hr : v ≤ p ∨ p < u) : PaR h' p n f1 f2 := P.cong F.lo ⟨by rw [F.kd], F.ai (by omega)⟩
theorem PaR.ga {h h' : AH} {p n u v : Nat} {f1 f2 : Nat → Int} (P : PaR h p n f1 f2) (F : Ga h h' u v) (hr : v ≤ p ∨ p < u) : PaR h' p n f1 f2 := P.cong F.2.1 ⟨by rw [F.1], (F.2.2.2 p (by omega)).2.2.2.1⟩
/-- a number a piece, at p -/
def PoR (h : AH) (p n : Nat) (f : Nat → Int) : Prop := hkd h p = (1, 8) ∧ hlo h ≤ p ∧ ∀ i : Nat, i < n → haI h p i = f i
theorem PoR.cong {h h' : AH} {p n : Nat} {f : Nat → Int} (P : PoR h p n f) (lo : hlo h' = hlo h) (e : hkd h' p = hkd h p ∧ haI h' p = haI h p) : PoR h' p n f := by
  unfold PoR at *
  rw [e.1, e.2, lo]; exact P
theorem PoR.fr {h h' : AH} {p n u v : Nat} {f : Nat → Int} (P : PoR h p n f) (F : Fr h h' u v) (hr : v ≤ p ∨ p < u) : PoR h' p n f := P.cong F.lo ⟨by rw [F.kd], F.ai (by omega)⟩
theorem PoR.ga {h h' : AH} {p n u v : Nat} {f : Nat → Int} (P : PoR h p n f) (F : Ga h h' u v) (hr : v ≤ p ∨ p < u) : PoR h' p n f := P.cong F.2.1 ⟨by rw [F.1], (F.2.2.2 p (by omega)).2.2.2.1⟩
theorem l_cell {zz : Nat → Nat} {a n : Nat} {k : Int} {h : AH} {Q : Int → AH → Prop} (ka : hkd h a = (1, n)) (hk : 0 ≤ k ∧ k ≤ 1000) (q : ∀ r, Q r h) : w_L_cell zz a k h Q := by
  unfold w_L_cell
  refine ⟨n, ka, ?_⟩
  rw [jn_def, okI_of ka]
  exact ⟨fun _ => ⟨by unfold inR; omega, fun v _ => q v⟩, fun hc => ⟨⟨by omega, by omega⟩, q _⟩⟩
theorem l_at {zz : Nat → Nat} {x n : Int} {h : AH} {Q : Int → AH → Prop} (hn : 0 < n) (q : ∀ r, 0 ≤ r → r < n → Q r h) : w_L_at zz x n h Q := by
  unfold w_L_at
  intro v hv
  exact ⟨⟨hv.1, hn⟩, q _ (Int.emod_nonneg _ (by omega)) (Int.emod_lt_of_pos _ hn)⟩
theorem l_abs {zz : Nat → Nat} {v : Int} {h : AH} {Q : Int → AH → Prop} (hv : -100000 ≤ v ∧ v ≤ 100000) (q : Q (ab1 v) h) : w_L_abs zz v h Q := by
  unfold w_L_abs
  rw [jn_def]
  unfold ab1 at q
  refine ⟨fun hc => ?_, fun hc => ⟨by unfold inR; omega, ?_⟩⟩
  · rw [if_pos hc] at q; exact q
  · rw [if_neg hc] at q
    rw [show -v = 0 - v by omega]; exact q
theorem mul_bd {w x : Int} (hw : 0 ≤ w ∧ w ≤ 9) (hx : 0 ≤ x ∧ x ≤ 4) : 0 ≤ w * x ∧ w * x ≤ 36 := by
  have h3 : 0 ≤ w * x := Int.mul_nonneg hw.1 hx.1
  have h4 : w * x ≤ 9 * 4 := Int.mul_le_mul hw.2 hx.2 hx.1 (by omega)
  omega
theorem l_far {zz : Nat → Nat} {b i j : Nat} {h : AH} {Q : Int → AH → Prop} {c0 c1 st : Nat → Int} (K : LK h b c0 c1 st) (hi : i < Nc c0) (hj : j < Nc c1) (q : Q (dsL c0 c1 st i j) h) : w_L_far zz i j b (b + 1) (b + 3) h Q := by
  obtain ⟨⟨⟨k0, t0⟩, ⟨k1, t1⟩⟩, -, ⟨k3, ts⟩, -, ⟨n8, m8⟩, -, -, G⟩ := K
  have a1 := (t0 i hi).1
  have a2 := (t1 j hj).1
  have a3 : haI h (b + 3) (0 : Int) = st 0 := ts 0 (by omega)
  have l0 := Lc_lt hi
  have l1 := Lc_lt hj
  have g0 := G.1
  have b1 := ab1_bd (x := (Lc c0 i : Int) % 16 - (Lc c1 j : Int) % 16) (n := 15) (by omega) (by omega)
  have b2 := ab1_bd (x := (Lc c0 i : Int) / 16 - (Lc c1 j : Int) / 16) (n := 4) (by omega) (by omega)
  have b3 := mul_bd ⟨by omega, g0.2⟩ b2
  unfold w_L_far
  rw [okI_of k0, okI_of k1, a1, a2]
  refine ⟨by unfold inR; omega, ⟨by omega, by omega⟩, ⟨by omega, by omega⟩, by unfold inR; omega, ⟨by omega, by omega⟩, ⟨by omega, by omega⟩, by unfold inR; omega, l_abs (by omega) ?_⟩
  rw [okI_of k3, okI_of k0, okI_of k1, a1, a2, a3]
  refine ⟨⟨by omega, by omega⟩, by unfold inR; omega, ⟨by omega, by omega⟩, ⟨by omega, by omega⟩, by unfold inR; omega, ⟨by omega, by omega⟩, ⟨by omega, by omega⟩, by unfold inR; omega, l_abs (by omega) ?_⟩
  exact ⟨by unfold inR; omega, by unfold inR; omega, q⟩
theorem l_taken {zz : Nat → Nat} {d p n0 n1 j : Nat} {σ : PT} {h : AH} {Q : Int → AH → Prop} (kd : hkd h d = (1, 3)) (d0 : haI h d 0 = (n0 : Int)) (P : PaR h p n0 σ.1 σ.2.2.1) (w : pw n0 n1 σ) (hn : n0 ≤ 8) (hj : j < n1) (q : Q (if σ.2.1 j = -1 then 0 else 1) h) : w_L_taken zz j d p h Q := by
  obtain ⟨kp, -, P⟩ := P
  unfold w_L_taken
  obtain ⟨I, hI⟩ : ∃ I : Nat → Int → AH → Prop, ∀ m x h', I m x h' ↔ ∃ k : Nat, k ≤ n0 ∧ m = n0 - k ∧ x = (k : Int) ∧ h' = h ∧ ∀ i, i < k → σ.1 i ≠ (j : Int) := ⟨_, fun _ _ _ => Iff.rfl⟩
  refine ⟨I, ⟨_, (hI _ _ _).mpr ⟨0, by omega, rfl, rfl, rfl, fun i hi => absurd hi (Nat.not_lt_zero _)⟩⟩, ?_⟩
  intro m x h' hi9
  obtain ⟨k, hk, rfl, rfl, e, hno⟩ := (hI _ _ _).mp hi9
  subst e
  rw [okI_of kd, okI_of kp, d0]
  refine ⟨⟨by omega, by omega⟩, fun hc => ⟨.inl rfl, ?_⟩, fun hc => ⟨by unfold inR; omega, ⟨by omega, by omega⟩, fun hne => ?_, fun heq => ⟨.inr rfl, ?_⟩⟩⟩
  · have hkn : k = n0 := by omega
    subst hkn
    have : σ.2.1 j = -1 := by
      rcases w.2 j hj with h | ⟨i, h1, h2, h3⟩
      · exact h.1
      · exact absurd h3 (hno i h1)
    rw [if_pos this] at q
    exact q
  · have hkn : k < n0 := by omega
    rw [(P k hkn).1] at hne
    refine ⟨by unfold inR; omega, fun y hy => ⟨_, by omega, (hI _ _ _).mpr ⟨k + 1, by omega, rfl, by omega, rfl, fun i hi => ?_⟩⟩⟩
    by_cases e : i = k
    · rw [e]; exact hne
    · exact hno i (by omega)
  · have hkn : k < n0 := by omega
    rw [(P k hkn).1] at heq
    have : ¬ σ.2.1 j = -1 := by
      rcases w.1 k hkn with h | ⟨j2, h1, h2, h3, h4⟩
      · omega
      · have : j2 = j := by omega
        subst this
        omega
    rw [if_neg this] at q
    exact q
theorem l_many {zz : Nat → Nat} {d p n0 : Nat} {v : Int} {f1 f2 : Nat → Int} {h : AH} {Q : Int → AH → Prop} (kd : hkd h d = (1, 3)) (d0 : haI h d 0 = (n0 : Int)) (P : PaR h p n0 f1 f2) (hn : n0 ≤ 8) (q : Q (cK f2 n0 v : Int) h) : w_L_many zz v d p h Q := by
  obtain ⟨kp, -, P⟩ := P
  unfold w_L_many
  obtain ⟨I, hI⟩ : ∃ I : Nat → Int → Int → AH → Prop, ∀ m x y h', I m x y h' ↔ ∃ k : Nat, k ≤ n0 ∧ m = n0 - k ∧ x = (cK f2 k v : Int) ∧ y = (k : Int) ∧ h' = h := ⟨_, fun _ _ _ _ => Iff.rfl⟩
  refine ⟨I, ⟨_, (hI _ _ _ _).mpr ⟨0, by omega, rfl, rfl, rfl, rfl⟩⟩, ?_⟩
  intro m x y h' hi9
  obtain ⟨k, hk, rfl, rfl, rfl, e⟩ := (hI _ _ _ _).mp hi9
  subst e
  have cb := cK_le (f := f2) (n := k) (v := v)
  rw [okI_of kd, okI_of kp, d0]
  refine ⟨⟨by omega, by omega⟩, fun hc => ?_, fun hc => ⟨by unfold inR; omega, by unfold inR; omega, ⟨by omega, by omega⟩, ?_⟩⟩
  · have hkn : k = n0 := by omega
    rw [hkn]; exact q
  · have hkn : k < n0 := by omega
    rw [jn_def, (P k hkn).2]
    refine ⟨fun hne => ⟨by unfold inR; omega, fun a ha => ⟨by unfold inR; omega, fun b hb => ⟨_, by omega, (hI _ _ _ _).mpr ⟨k + 1, by omega, rfl, ?_, by omega, rfl⟩⟩⟩⟩, fun heq => ⟨by unfold inR; omega, fun a ha => ⟨by unfold inR; omega, fun b hb => ⟨_, by omega, (hI _ _ _ _).mpr ⟨k + 1, by omega, rfl, ?_, by omega, rfl⟩⟩⟩⟩⟩
    · rw [cK_s, if_neg hne]; omega
    · rw [cK_s, if_pos heq]; omega
/-- goals, by partners -/
theorem gl_of {c1 : Nat → Int} {n0 : Nat} {σ : PT} (w : pw n0 (Nc c1) σ) {i : Nat} (hi : i < n0) : σ.1 i = -1 ∧ glA c1 σ i = -1 ∨ ∃ j, j < Nc c1 ∧ σ.1 i = (j : Int) ∧ glA c1 σ i = (Lc c1 j : Int) := by
  rcases w.1 i hi with h | ⟨j, h1, h2, -⟩
  · exact .inl ⟨h.1, by unfold glA; rw [if_pos h.1]⟩
  · refine .inr ⟨j, h1, h2, ?_⟩
    unfold glA
    rw [if_neg (by omega), h2]; rfl
/-- where the law has the pieces: those that vanish are away -/
def poS (gl c : Nat → Int) : Nat → Int := fun i => if gl i = -1 then -1 else c i
theorem l_goes {zz : Nat → Nat} {b p r : Nat} {h : AH} {Q : Int → AH → Prop} {c0 c1 st c : Nat → Int} {σ : PT} (K : LK h b c0 c1 st) (P : PaR h p (Nc c0) σ.1 σ.2.2.1) (w : pw (Nc c0) (Nc c1) σ) (R : PoR h r (Nc c0) (poS (glA c1 σ) c)) (q : Q (if 0 < cG (glA c1 σ) c (Nc c0) then 1 else 0) h) : w_L_goes zz (b + 1) (b + 2) p r h Q := by
  obtain ⟨⟨-, ⟨k1, t1⟩⟩, ⟨k2, d0, -⟩, -, -, ⟨n8, m8⟩, -, -, -⟩ := K
  obtain ⟨kp, -, P⟩ := P
  obtain ⟨kr, -, R⟩ := R
  unfold w_L_goes
  obtain ⟨I, hI⟩ : ∃ I : Nat → Int → AH → Prop, ∀ m x h', I m x h' ↔ ∃ k : Nat, k ≤ Nc c0 ∧ m = Nc c0 - k ∧ x = (k : Int) ∧ h' = h ∧ ∀ i, i < k → ¬ (glA c1 σ i ≠ -1 ∧ c i ≠ glA c1 σ i) := ⟨_, fun _ _ _ => Iff.rfl⟩
  refine ⟨I, ⟨_, (hI _ _ _).mpr ⟨0, by omega, rfl, rfl, rfl, fun i hi => absurd hi (Nat.not_lt_zero _)⟩⟩, ?_⟩
  intro m x h' hi9
  obtain ⟨k, hk, rfl, rfl, e, hno⟩ := (hI _ _ _).mp hi9
  subst e
  rw [okI_of k2, okI_of kp, d0]
  refine ⟨⟨by omega, by omega⟩, fun hc => ⟨.inl rfl, ?_⟩, fun hc => ⟨by unfold inR; omega, ⟨by omega, by omega⟩, ?_⟩⟩
  · have hkn : k = Nc c0 := by omega
    have : ¬ 0 < cG (glA c1 σ) c (Nc c0) := fun h => by
      obtain ⟨i, h1, h2⟩ := cG_pos.mp h
      exact hno i (by omega) h2
    rw [if_neg this] at q
    exact q
  · have hkn : k < Nc c0 := by omega
    have stay : ¬ (glA c1 σ k ≠ -1 ∧ c k ≠ glA c1 σ k) → inR ((k : Int) + 1) ∧ ∀ y : Int, y = (k : Int) + 1 → ∃ m, m < Nc c0 - k ∧ I m y h' := fun hst => ⟨by unfold inR; omega, fun y hy => ⟨_, by omega, (hI _ _ _).mpr ⟨k + 1, by omega, rfl, by omega, rfl, fun i hi => by
      by_cases e : i = k
      · rw [e]; exact hst
      · exact hno i (by omega)⟩⟩⟩
    rw [jn_def, (P k hkn).1]
    rcases gl_of w hkn with ⟨h1, h2⟩ | ⟨j, h1, h2, h3⟩
    · rw [h1]
      exact ⟨fun _ => stay (fun h => h.1 h2), fun h => absurd (by omega) h⟩
    · have hg : ¬ glA c1 σ k = -1 := by omega
      have hr : haI h' r (k : Int) = c k := by rw [R k hkn]; exact if_neg hg
      rw [h2, okI_of kr, okI_of k1, hr, (t1 j h1).1, ← h3]
      refine ⟨fun h => absurd h (by omega), fun _ => ⟨⟨by omega, by omega⟩, by unfold inR; omega, ⟨by omega, by omega⟩, by unfold inR; omega, ⟨by omega, by omega⟩, fun he => stay (fun h => h.2 he), fun hne => ⟨.inr rfl, ?_⟩⟩⟩
      rw [if_pos (cG_pos.mpr ⟨k, hkn, hg, hne⟩)] at q
      exact q
theorem l_next {zz : Nat → Nat} {a g w : Int} {h : AH} {Q : Int → AH → Prop} (ha : 0 ≤ a ∧ a < 80) (hg : 0 ≤ g ∧ g < 80) (hne : a ≠ g) (hw : 0 ≤ w ∧ w ≤ 2) (q : Q (nxc w a g) h) : w_L_next zz a g w h Q := by
  unfold w_L_next
  refine ⟨⟨hg.1, by omega⟩, ⟨ha.1, by omega⟩, by unfold inR; omega, fun c ec => ⟨⟨hg.1, by omega⟩, ⟨ha.1, by omega⟩, by unfold inR; omega, fun r er => ?_⟩⟩
  unfold nxc at q
  rw [← ec, ← er] at q
  have rowc : c ≠ 0 → (if (0 : Int) < c then a + 1 else a - 1) = a + (if 0 ≤ c then 1 else -1) := fun h => by split <;> split <;> omega
  have colr : r ≠ 0 → (if (0 : Int) < r then a + 16 else a - 16) = a + (if 0 ≤ r then 16 else -16) := fun h => by split <;> split <;> omega
  have hcr : c ≠ 0 ∨ r ≠ 0 := by omega
  have abz : ∀ x : Int, ab1 x = 0 ↔ x = 0 := fun x => by unfold ab1; split <;> omega
  have abn : ∀ x : Int, 0 ≤ ab1 x := fun x => by unfold ab1; split <;> omega
  have row : c ≠ 0 → (if w = 0 then 0 < ab1 c else if w = 1 then ab1 r = 0 else ab1 r ≤ ab1 c) → Q (a + (if 0 ≤ c then 1 else -1)) h := fun h1 h2 => by
    rw [if_pos h2, rowc h1] at q; exact q
  have col : r ≠ 0 → ¬ (if w = 0 then 0 < ab1 c else if w = 1 then ab1 r = 0 else ab1 r ≤ ab1 c) → Q (a + (if 0 ≤ r then 16 else -16)) h := fun h1 h2 => by
    rw [if_neg h2, colr h1] at q; exact q
  refine jn_in (fun K hK => ?_)
  have K1 : c ≠ 0 → (if w = 0 then 0 < ab1 c else if w = 1 then ab1 r = 0 else ab1 r ≤ ab1 c) → K 1 h := fun h1 h2 => by
    have z := row h1 h2
    rw [hK]
    simp only [jn_def]
    refine ⟨fun h => absurd h (by omega), fun _ => ⟨fun hc => ⟨by unfold inR; omega, ?_⟩, fun hc => ⟨by unfold inR; omega, ?_⟩⟩⟩
    · rw [if_pos hc] at z; exact z
    · rw [if_neg hc] at z; exact z
  have K0 : r ≠ 0 → ¬ (if w = 0 then 0 < ab1 c else if w = 1 then ab1 r = 0 else ab1 r ≤ ab1 c) → K 0 h := fun h1 h2 => by
    have z := col h1 h2
    rw [hK]
    simp only [jn_def]
    refine ⟨fun _ => ⟨fun hc => ⟨by unfold inR; omega, ?_⟩, fun hc => ⟨by unfold inR; omega, ?_⟩⟩, fun h => absurd trivial h⟩
    · rw [if_pos hc] at z; exact z
    · rw [if_neg hc] at z; exact z
  have nc := abn c
  have nr := abn r
  clear q hK row col rowc colr
  refine ⟨fun w0 => ⟨fun w1 => l_abs (by omega) (l_abs (by omega) ⟨fun hlt => K0 (fun e => ?_) ?_, fun hge => K1 (fun e => ?_) ?_⟩), fun w1 => ⟨fun hr => K0 hr ?_, fun hr => K1 (by omega) ?_⟩⟩, fun w0 => ⟨fun hc => K0 (by omega) ?_, fun hc => K1 hc ?_⟩⟩
  · rw [(abz r).mpr e] at hlt; omega
  · rw [if_neg w0, if_neg w1]; omega
  · have h1 := (abz c).mpr e
    have h2 := (abz r).mp (by omega)
    omega
  · rw [if_neg w0, if_neg w1]; omega
  · rw [if_neg w0, if_pos w1]; exact fun h => hr ((abz r).mp h)
  · rw [if_neg w0, if_pos w1]; exact (abz r).mpr hr
  · rw [if_pos w0, (abz c).mpr hc]; omega
  · rw [if_pos w0]
    have : ab1 c ≠ 0 := fun h => hc ((abz c).mp h)
    omega
