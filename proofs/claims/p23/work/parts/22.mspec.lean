/-! THE PURE LAYER, 6: how the pieces go (both programs mean this) -/
/-- the next cell of a piece at a with goal g -/
def nxc (w a g : Int) : Int := if (if w = 0 then 0 < ab1 (g % 16 - a % 16) else if w = 1 then ab1 (g / 16 - a / 16) = 0 else ab1 (g / 16 - a / 16) ≤ ab1 (g % 16 - a % 16)) then (if 0 < g % 16 - a % 16 then a + 1 else a - 1) else (if 0 < g / 16 - a / 16 then a + 16 else a - 16)
def rem (a g : Int) : Int := ab1 (g % 16 - a % 16) + ab1 (g / 16 - a / 16)
theorem nxc_ok {w a g : Int} (ha : 0 ≤ a ∧ a < 80) (hg : 0 ≤ g ∧ g < 80) (hne : a ≠ g) : 0 ≤ nxc w a g ∧ nxc w a g < 80 ∧ rem (nxc w a g) g + 1 = rem a g ∧ nxc w a g ≠ a := by
  unfold nxc
  have key : ∀ b : Int, (b = a + 1 ∧ 0 < g % 16 - a % 16 ∨ b = a - 1 ∧ g % 16 - a % 16 < 0 ∨ b = a + 16 ∧ 0 < g / 16 - a / 16 ∨ b = a - 16 ∧ g / 16 - a / 16 < 0) → 0 ≤ b ∧ b < 80 ∧ rem b g + 1 = rem a g ∧ b ≠ a := by
    intro b hb
    unfold rem ab1
    rcases hb with ⟨rfl, h⟩ | ⟨rfl, h⟩ | ⟨rfl, h⟩ | ⟨rfl, h⟩
    · refine ⟨by omega, by omega, ?_, by omega⟩
      split <;> split <;> split <;> split <;> omega
    · refine ⟨by omega, by omega, ?_, by omega⟩
      split <;> split <;> split <;> split <;> omega
    · refine ⟨by omega, by omega, ?_, by omega⟩
      split <;> split <;> split <;> split <;> omega
    · refine ⟨by omega, by omega, ?_, by omega⟩
      split <;> split <;> split <;> split <;> omega
  apply key
  have f0 : ∀ x : Int, 0 ≤ ab1 x := fun x => by unfold ab1; split <;> omega
  have f1 : ∀ x : Int, ab1 x = 0 → x = 0 := fun x h => by unfold ab1 at h; split at h <;> omega
  have f2 : ab1 0 = 0 := rfl
  by_cases hA : (if w = 0 then 0 < ab1 (g % 16 - a % 16) else if w = 1 then ab1 (g / 16 - a / 16) = 0 else ab1 (g / 16 - a / 16) ≤ ab1 (g % 16 - a % 16))
  · rw [if_pos hA]
    have hc : g % 16 - a % 16 ≠ 0 := by
      intro e
      have hr : ab1 (g / 16 - a / 16) ≠ 0 := fun h => by have := f1 _ h; omega
      have := f0 (g / 16 - a / 16)
      rw [e, f2] at hA
      split at hA
      · omega
      · split at hA
        · exact hr hA
        · omega
    split <;> omega
  · rw [if_neg hA]
    have hr : g / 16 - a / 16 ≠ 0 := by
      intro e
      have hc : ab1 (g % 16 - a % 16) ≠ 0 := fun h => by have := f1 _ h; omega
      have := f0 (g % 16 - a % 16)
      apply hA
      rw [e, f2]
      split
      · omega
      · split
        · rfl
        · omega
    split <;> omega
theorem rem_bd {a g : Int} (ha : 0 ≤ a ∧ a < 80) (hg : 0 ≤ g ∧ g < 80) : 0 ≤ rem a g ∧ rem a g ≤ 19 := by
  unfold rem
  have h1 := ab1_bd (x := g % 16 - a % 16) (n := 15) (by omega) (by omega)
  have h2 := ab1_bd (x := g / 16 - a / 16) (n := 4) (by omega) (by omega)
  omega
theorem rem_0 {a g : Int} : rem a g = 0 → a = g := by
  unfold rem ab1
  intro h
  split at h <;> split at h <;> omega
/-- how many pieces with a goal are in a cell, how many are on the way -/
def cT (gl c : Nat → Int) : Nat → Int → Nat
  | 0, _ => 0
  | n + 1, q => cT gl c n q + (if gl n ≠ -1 ∧ c n = q then 1 else 0)
def cG (gl c : Nat → Int) : Nat → Nat
  | 0 => 0
  | n + 1 => cG gl c n + (if gl n ≠ -1 ∧ c n ≠ gl n then 1 else 0)
theorem cT_s {gl c : Nat → Int} {n : Nat} {q : Int} : cT gl c (n + 1) q = cT gl c n q + (if gl n ≠ -1 ∧ c n = q then 1 else 0) := rfl
theorem cG_s {gl c : Nat → Int} {n : Nat} : cG gl c (n + 1) = cG gl c n + (if gl n ≠ -1 ∧ c n ≠ gl n then 1 else 0) := rfl
theorem cT_le {gl c : Nat → Int} {n : Nat} {q : Int} : cT gl c n q ≤ n := by
  induction n with
  | zero => exact Nat.le_refl _
  | succ n ih => rw [cT_s]; split <;> omega
theorem cG_le {gl c : Nat → Int} {n : Nat} : cG gl c n ≤ n := by
  induction n with
  | zero => exact Nat.le_refl _
  | succ n ih => rw [cG_s]; split <;> omega
theorem cT_ext {gl gl' c c' : Nat → Int} {n : Nat} {q : Int} (h : ∀ k, k < n → gl k = gl' k ∧ c k = c' k) : cT gl c n q = cT gl' c' n q := by
  induction n with
  | zero => rfl
  | succ n ih => rw [cT_s, cT_s, ih (fun k hk => h k (by omega)), (h n (by omega)).1, (h n (by omega)).2]
theorem cG_ext {gl gl' c c' : Nat → Int} {n : Nat} (h : ∀ k, k < n → gl k = gl' k ∧ c k = c' k) : cG gl c n = cG gl' c' n := by
  induction n with
  | zero => rfl
  | succ n ih => rw [cG_s, cG_s, ih (fun k hk => h k (by omega)), (h n (by omega)).1, (h n (by omega)).2]
theorem cT_un {gl c : Nat → Int} {n i : Nat} {q v : Int} (hi : i < n) (hg : gl i ≠ -1) : cT gl (un c i v) n q + (if c i = q then 1 else 0) = cT gl c n q + (if v = q then 1 else 0) := by
  induction n with
  | zero => omega
  | succ n ih =>
    rw [cT_s, cT_s]
    by_cases e : i = n
    · subst e
      rw [un_s, cT_ext (gl' := gl) (c' := c) (fun k hk => ⟨rfl, un_n (by omega)⟩)]
      simp only [hg, ne_eq, not_false_eq_true, true_and]
      omega
    · have := ih (by omega)
      rw [un_n (show n ≠ i by omega)]
      omega
theorem cG_un {gl c : Nat → Int} {n i : Nat} {v : Int} (hi : i < n) (hg : gl i ≠ -1) : cG gl (un c i v) n + (if c i = gl i then 0 else 1) = cG gl c n + (if v = gl i then 0 else 1) := by
  induction n with
  | zero => omega
  | succ n ih =>
    rw [cG_s, cG_s]
    by_cases e : i = n
    · subst e
      rw [un_s, cG_ext (gl' := gl) (c' := c) (fun k hk => ⟨rfl, un_n (by omega)⟩)]
      by_cases e1 : c i = gl i <;> by_cases e2 : v = gl i <;> simp [hg, e1, e2]
    · have := ih (by omega)
      rw [un_n (show n ≠ i by omega)]
      omega
theorem cT_pos {gl c : Nat → Int} {n : Nat} {q : Int} : 0 < cT gl c n q ↔ ∃ k, k < n ∧ gl k ≠ -1 ∧ c k = q := by
  induction n with
  | zero => exact ⟨fun h => absurd h (by unfold cT; omega), fun ⟨k, h, _⟩ => by omega⟩
  | succ n ih =>
    rw [cT_s]
    constructor
    · intro h
      by_cases e : gl n ≠ -1 ∧ c n = q
      · exact ⟨n, by omega, e⟩
      · rw [if_neg e] at h
        obtain ⟨k, h1, h2⟩ := ih.mp (by omega)
        exact ⟨k, by omega, h2⟩
    · rintro ⟨k, h1, h2⟩
      by_cases e : k = n
      · subst e; rw [if_pos h2]; omega
      · have := ih.mpr ⟨k, by omega, h2⟩; omega
theorem cG_pos {gl c : Nat → Int} {n : Nat} : 0 < cG gl c n ↔ ∃ k, k < n ∧ gl k ≠ -1 ∧ c k ≠ gl k := by
  induction n with
  | zero => exact ⟨fun h => absurd h (by unfold cG; omega), fun ⟨k, h, _⟩ => by omega⟩
  | succ n ih =>
    rw [cG_s]
    constructor
    · intro h
      by_cases e : gl n ≠ -1 ∧ c n ≠ gl n
      · exact ⟨n, by omega, e⟩
      · rw [if_neg e] at h
        obtain ⟨k, h1, h2⟩ := ih.mp (by omega)
        exact ⟨k, by omega, h2⟩
    · rintro ⟨k, h1, h2⟩
      by_cases e : k = n
      · subst e; rw [if_pos h2]; omega
      · have := ih.mpr ⟨k, by omega, h2⟩; omega
/-- cells, held lately, held in all, arrived in, held in this frame -/
abbrev MT : Type := (Nat → Int) × (Nat → Int) × (Nat → Int) × (Nat → Int) × Nat
def mst (n : Nat) (gl : Nat → Int) (w p : Int) (t : Nat) (z : MT) (k : Nat) : MT :=
  if gl k ≠ -1 ∧ z.1 k ≠ gl k then
    if 0 < cT gl z.1 n (nxc w (z.1 k) (gl k)) ∧ z.2.1 k < p then (z.1, un z.2.1 k (z.2.1 k + 1), un z.2.2.1 k (z.2.2.1 k + 1), z.2.2.2.1, z.2.2.2.2 + 1)
    else (un z.1 k (nxc w (z.1 k) (gl k)), un z.2.1 k 0, z.2.2.1, (if nxc w (z.1 k) (gl k) = gl k then un z.2.2.2.1 k t else z.2.2.2.1), z.2.2.2.2)
  else z
def msw (n : Nat) (gl : Nat → Int) (w p : Int) (t : Nat) (z : MT) : Nat → MT
  | 0 => z
  | k + 1 => mst n gl w p t (msw n gl w p t z k) k
def mrs (z : MT) : MT := (z.1, z.2.1, z.2.2.1, z.2.2.2.1, 0)
def mfr (n : Nat) (gl s0 : Nat → Int) (w p : Int) : Nat → MT
  | 0 => (s0, fun _ => 0, fun _ => 0, fun _ => 0, 0)
  | t + 1 => msw n gl w p (t + 1) (mrs (mfr n gl s0 w p t)) n
/-- held in the frames up to t -/
def mht (n : Nat) (gl s0 : Nat → Int) (w p : Int) : Nat → Nat
  | 0 => 0
  | t + 1 => mht n gl s0 w p t + (mfr n gl s0 w p (t + 1)).2.2.2.2
/-- the number of frames of moving -/
def isF (n : Nat) (gl s0 : Nat → Int) (w p : Int) (t0 F : Nat) : Prop := t0 ≤ F ∧ cG gl (mfr n gl s0 w p F).1 n = 0 ∧ ∀ u, t0 ≤ u → u < F → 0 < cG gl (mfr n gl s0 w p u).1 n
theorem isF_u {n : Nat} {gl s0 : Nat → Int} {w p : Int} {t0 F G : Nat} (h1 : isF n gl s0 w p t0 F) (h2 : isF n gl s0 w p t0 G) : F = G := by
  obtain ⟨a1, a2, a3⟩ := h1
  obtain ⟨b1, b2, b3⟩ := h2
  by_cases h : F < G
  · have := b3 F a1 h; omega
  · by_cases h' : G < F
    · have := a3 G b1 h'; omega
    · omega
/-- what is so of the pieces all along -/
def MK (gl : Nat → Int) (p : Int) (t : Int) (z : MT) (k : Nat) : Prop := (0 ≤ z.1 k ∧ z.1 k < 80) ∧ (0 ≤ z.2.1 k ∧ z.2.1 k ≤ p) ∧ (0 ≤ z.2.2.1 k ∧ z.2.2.1 k ≤ t) ∧ (0 ≤ z.2.2.2.1 k ∧ z.2.2.2.1 k ≤ t) ∧ (gl k ≠ -1 → z.1 k ≠ gl k → rem (z.1 k) (gl k) * (p + 1) - z.2.1 k ≤ 190 - t ∧ z.2.2.2.1 k = 0)
theorem mst_o {n : Nat} {gl : Nat → Int} {w p : Int} {t : Nat} {z : MT} {k j : Nat} (h : j ≠ k) : (mst n gl w p t z k).1 j = z.1 j ∧ (mst n gl w p t z k).2.1 j = z.2.1 j ∧ (mst n gl w p t z k).2.2.1 j = z.2.2.1 j ∧ (mst n gl w p t z k).2.2.2.1 j = z.2.2.2.1 j := by
  unfold mst
  split
  · split
    · exact ⟨rfl, un_n h, un_n h, rfl⟩
    · refine ⟨un_n h, un_n h, rfl, ?_⟩
      show (if nxc w (z.1 k) (gl k) = gl k then un z.2.2.2.1 k t else z.2.2.2.1) j = _
      split
      · exact un_n h
      · rfl
  · exact ⟨rfl, rfl, rfl, rfl⟩
theorem mst_k {n : Nat} {gl : Nat → Int} {w p : Int} {t : Nat} {z : MT} {k : Nat} (hp : 0 ≤ p ∧ p ≤ 9) (hg : gl k = -1 ∨ 0 ≤ gl k ∧ gl k < 80) (m : MK gl p t z k) : MK gl p ((t : Int) + 1) (mst n gl w p (t + 1) z k) k := by
  obtain ⟨m1, m2, m3, m4, m5⟩ := m
  unfold mst
  split
  next h =>
    have hg' : 0 ≤ gl k ∧ gl k < 80 := by rcases hg with hg | hg
                                          · exact absurd hg h.1
                                          · exact hg
    have nx := nxc_ok (w := w) m1 hg' h.2
    have m6 := m5 h.1 h.2
    split
    next h2 =>
      refine ⟨m1, ?_, ?_, ⟨m4.1, by have := m4.2; show z.2.2.2.1 k ≤ _; omega⟩, fun _ _ => ?_⟩
      · show 0 ≤ un z.2.1 k (z.2.1 k + 1) k ∧ un z.2.1 k (z.2.1 k + 1) k ≤ p
        rw [un_s]; omega
      · show 0 ≤ un z.2.2.1 k (z.2.2.1 k + 1) k ∧ un z.2.2.1 k (z.2.2.1 k + 1) k ≤ _
        rw [un_s]; omega
      · show rem (z.1 k) (gl k) * (p + 1) - un z.2.1 k (z.2.1 k + 1) k ≤ _ ∧ z.2.2.2.1 k = 0
        rw [un_s]; omega
    next h2 =>
      refine ⟨?_, ?_, ⟨m3.1, by have := m3.2; show z.2.2.1 k ≤ _; omega⟩, ?_, ?_⟩
      · show 0 ≤ un z.1 k _ k ∧ un z.1 k _ k < 80
        rw [un_s]; omega
      · show 0 ≤ un z.2.1 k 0 k ∧ un z.2.1 k 0 k ≤ p
        rw [un_s]; omega
      · show 0 ≤ (if nxc w (z.1 k) (gl k) = gl k then un z.2.2.2.1 k ((t + 1 : Nat) : Int) else z.2.2.2.1) k ∧ (if nxc w (z.1 k) (gl k) = gl k then un z.2.2.2.1 k ((t + 1 : Nat) : Int) else z.2.2.2.1) k ≤ _
        split
        · rw [un_s]; omega
        · omega
      · show gl k ≠ -1 → un z.1 k (nxc w (z.1 k) (gl k)) k ≠ gl k → rem (un z.1 k (nxc w (z.1 k) (gl k)) k) (gl k) * (p + 1) - un z.2.1 k 0 k ≤ _ ∧ (if nxc w (z.1 k) (gl k) = gl k then un z.2.2.2.1 k ((t + 1 : Nat) : Int) else z.2.2.2.1) k = 0
        rw [un_s, un_s]
        intro _ h3
        rw [if_neg h3]
        have e : rem (z.1 k) (gl k) = rem (nxc w (z.1 k) (gl k)) (gl k) + 1 := by omega
        rw [e, Int.add_mul] at m6
        omega
  next h =>
    refine ⟨m1, m2, ⟨m3.1, by omega⟩, ⟨m4.1, by omega⟩, fun h1 h2 => absurd ⟨h1, h2⟩ h⟩
theorem mst_c {n : Nat} {gl : Nat → Int} {w p : Int} {t : Nat} {z : MT} {k : Nat} : (mst n gl w p t z k).2.2.2.2 ≤ z.2.2.2.2 + 1 := by
  unfold mst
  split
  · split
    · exact Nat.le_refl _
    · exact Nat.le_succ _
  · exact Nat.le_succ _
theorem msw_o {n : Nat} {gl : Nat → Int} {w p : Int} {t : Nat} {z : MT} {j : Nat} : ∀ k, k ≤ j → (msw n gl w p t z k).1 j = z.1 j ∧ (msw n gl w p t z k).2.1 j = z.2.1 j ∧ (msw n gl w p t z k).2.2.1 j = z.2.2.1 j ∧ (msw n gl w p t z k).2.2.2.1 j = z.2.2.2.1 j := by
  intro k
  induction k with
  | zero => intro _; exact ⟨rfl, rfl, rfl, rfl⟩
  | succ k ih =>
    intro h
    have i := ih (by omega)
    have m := mst_o (n := n) (gl := gl) (w := w) (p := p) (t := t) (z := msw n gl w p t z k) (k := k) (j := j) (by omega)
    exact ⟨m.1.trans i.1, m.2.1.trans i.2.1, m.2.2.1.trans i.2.2.1, m.2.2.2.trans i.2.2.2⟩
theorem MK_cong {gl : Nat → Int} {p t : Int} {z z' : MT} {k : Nat} (h : z'.1 k = z.1 k ∧ z'.2.1 k = z.2.1 k ∧ z'.2.2.1 k = z.2.2.1 k ∧ z'.2.2.2.1 k = z.2.2.2.1 k) (m : MK gl p t z k) : MK gl p t z' k := by
  unfold MK at *
  rw [h.1, h.2.1, h.2.2.1, h.2.2.2]; exact m
theorem msw_k {n : Nat} {gl : Nat → Int} {w p : Int} {t : Nat} {z : MT} (hp : 0 ≤ p ∧ p ≤ 9) (hg : ∀ k, k < n → gl k = -1 ∨ 0 ≤ gl k ∧ gl k < 80) (m : ∀ k, k < n → MK gl p t z k) : ∀ k, k ≤ n → (∀ j, j < k → MK gl p ((t : Int) + 1) (msw n gl w p (t + 1) z k) j) ∧ (∀ j, k ≤ j → j < n → MK gl p t (msw n gl w p (t + 1) z k) j) ∧ (msw n gl w p (t + 1) z k).2.2.2.2 ≤ z.2.2.2.2 + k := by
  intro k
  induction k with
  | zero => intro _; exact ⟨fun j hj => by omega, fun j _ hj => m j hj, Nat.le_refl _⟩
  | succ k ih =>
    intro hk
    obtain ⟨i1, i2, i3⟩ := ih (by omega)
    refine ⟨fun j hj => ?_, fun j hj hn => MK_cong (mst_o (by omega)) (i2 j (by omega) hn), Nat.le_trans mst_c (by omega)⟩
    by_cases e : j = k
    · subst e; exact mst_k hp (hg j (by omega)) (i2 j (Nat.le_refl _) (by omega))
    · exact MK_cong (mst_o e) (i1 j (by omega))
theorem mfr_k {n : Nat} {gl s0 : Nat → Int} {w p : Int} (hp : 0 ≤ p ∧ p ≤ 9) (hg : ∀ k, k < n → gl k = -1 ∨ 0 ≤ gl k ∧ gl k < 80) (hs : ∀ k, k < n → 0 ≤ s0 k ∧ s0 k < 80) : ∀ t : Nat, (∀ k, k < n → MK gl p t (mfr n gl s0 w p t) k) ∧ (mfr n gl s0 w p t).2.2.2.2 ≤ n := by
  intro t
  induction t with
  | zero =>
    refine ⟨fun k hk => ⟨hs k hk, ⟨Int.le_refl _, hp.1⟩, ⟨Int.le_refl _, Int.le_refl _⟩, ⟨Int.le_refl _, Int.le_refl _⟩, fun h1 h2 => ⟨?_, rfl⟩⟩, Nat.zero_le _⟩
    have hg' : 0 ≤ gl k ∧ gl k < 80 := by rcases hg k hk with h | h
                                          · exact absurd h h1
                                          · exact h
    have h3 := rem_bd (hs k hk) hg'
    have h4 : rem (s0 k) (gl k) * (p + 1) ≤ 19 * 10 := Int.mul_le_mul h3.2 (by omega) (by omega) (by omega)
    show rem (s0 k) (gl k) * (p + 1) - 0 ≤ 190 - ((0 : Nat) : Int)
    omega
  | succ t ih =>
    have := msw_k (w := w) hp hg (z := mrs (mfr n gl s0 w p t)) (t := t) (fun k hk => MK_cong (z := mfr n gl s0 w p t) ⟨rfl, rfl, rfl, rfl⟩ (ih.1 k hk)) n (Nat.le_refl _)
    refine ⟨fun k hk => ?_, ?_⟩
    · have h2 := this.1 k hk
      rw [show ((t + 1 : Nat) : Int) = (t : Int) + 1 by omega]
      exact h2
    · have := this.2.2
      show (msw n gl w p (t + 1) (mrs (mfr n gl s0 w p t)) n).2.2.2.2 ≤ n
      have e : (mrs (mfr n gl s0 w p t)).2.2.2.2 = 0 := rfl
      omega
/-- at the latest behind 190 frames every piece is there -/
theorem mfr_end {n : Nat} {gl s0 : Nat → Int} {w p : Int} (hp : 0 ≤ p ∧ p ≤ 9) (hg : ∀ k, k < n → gl k = -1 ∨ 0 ≤ gl k ∧ gl k < 80) (hs : ∀ k, k < n → 0 ≤ s0 k ∧ s0 k < 80) {t : Nat} (ht : 190 ≤ t) : cG gl (mfr n gl s0 w p t).1 n = 0 := by
  cases e : cG gl (mfr n gl s0 w p t).1 n with
  | zero => rfl
  | succ d =>
    obtain ⟨k, h1, h2, h3⟩ := cG_pos.mp (show 0 < cG gl (mfr n gl s0 w p t).1 n by omega)
    have m := (mfr_k (w := w) hp hg hs t).1 k h1
    obtain ⟨m1, m2, m3, m4, m5⟩ := m
    have m6 := (m5 h2 h3).1
    have hg' : 0 ≤ gl k ∧ gl k < 80 := by rcases hg k h1 with h | h
                                          · exact absurd h h2
                                          · exact h
    have r1 := rem_bd m1 hg'
    have r2 : 1 ≤ rem ((mfr n gl s0 w p t).1 k) (gl k) := by
      by_cases e : rem ((mfr n gl s0 w p t).1 k) (gl k) = 0
      · exact absurd (rem_0 e) h3
      · omega
    have r3 : 1 * (p + 1) ≤ rem ((mfr n gl s0 w p t).1 k) (gl k) * (p + 1) := Int.mul_le_mul_of_nonneg_right r2 (by omega)
    omega
theorem mht_le {n : Nat} {gl s0 : Nat → Int} {w p : Int} (hp : 0 ≤ p ∧ p ≤ 9) (hg : ∀ k, k < n → gl k = -1 ∨ 0 ≤ gl k ∧ gl k < 80) (hs : ∀ k, k < n → 0 ≤ s0 k ∧ s0 k < 80) : ∀ t : Nat, mht n gl s0 w p t ≤ n * t := by
  intro t
  induction t with
  | zero => exact Nat.le_refl _
  | succ t ih =>
    have := (mfr_k (w := w) hp hg hs (t + 1)).2
    show mht n gl s0 w p t + (mfr n gl s0 w p (t + 1)).2.2.2.2 ≤ n * (t + 1)
    rw [Nat.mul_add]; omega
/-- the goals -/
def glA (c1 : Nat → Int) (σ : PT) (k : Nat) : Int := if σ.1 k = -1 then -1 else (Lc c1 (σ.1 k).toNat : Int)
theorem glA_ok {c0 c1 : Nat → Int} {σ : PT} (w : pw (Nc c0) (Nc c1) σ) (k : Nat) (hk : k < Nc c0) : glA c1 σ k = -1 ∧ σ.1 k = -1 ∨ (0 ≤ glA c1 σ k ∧ glA c1 σ k < 80) ∧ σ.1 k ≠ -1 := by
  unfold glA
  rcases w.1 k hk with h | ⟨j, h1, h2, -⟩
  · exact .inl ⟨if_pos h.1, h.1⟩
  · have e : (σ.1 k).toNat = j := by omega
    rw [if_neg (by omega), e]
    have := Lc_lt h1
    exact .inr ⟨by omega, by omega⟩
