/-! THE PURE LAYER, 3: what pairs there are (both programs mean this) -/
def un (f : Nat → Int) (i : Nat) (v : Int) : Nat → Int := fun k => if k = i then v else f k
theorem un_s {f : Nat → Int} {i : Nat} {v : Int} : un f i v i = v := if_pos rfl
theorem un_n {f : Nat → Int} {i k : Nat} {v : Int} (h : k ≠ i) : un f i v k = f k := if_neg h
/-- how often a value is among the first n -/
def cK (f : Nat → Int) : Nat → Int → Nat
  | 0, _ => 0
  | n + 1, v => cK f n v + (if f n = v then 1 else 0)
theorem cK_s {f : Nat → Int} {n : Nat} {v : Int} : cK f (n + 1) v = cK f n v + (if f n = v then 1 else 0) := rfl
theorem cK_le {f : Nat → Int} {n : Nat} {v : Int} : cK f n v ≤ n := by
  induction n with
  | zero => exact Nat.le_refl _
  | succ n ih => rw [cK_s]; split <;> omega
theorem cK_ext {f g : Nat → Int} {n : Nat} {v : Int} (h : ∀ k, k < n → f k = g k) : cK f n v = cK g n v := by
  induction n with
  | zero => rfl
  | succ n ih => rw [cK_s, cK_s, ih (fun k hk => h k (by omega)), h n (by omega)]
theorem cK_un {f : Nat → Int} {n i : Nat} {v w : Int} (hi : i < n) : cK (un f i w) n v + (if f i = v then 1 else 0) = cK f n v + (if w = v then 1 else 0) := by
  induction n with
  | zero => omega
  | succ n ih =>
    rw [cK_s, cK_s]
    by_cases e : i = n
    · subst e
      rw [un_s, cK_ext (g := f) (fun k hk => un_n (by omega))]
      omega
    · have := ih (by omega)
      rw [un_n (show n ≠ i by omega)]
      omega
theorem cK_pos {f : Nat → Int} {n : Nat} {v : Int} : 0 < cK f n v ↔ ∃ i, i < n ∧ f i = v := by
  induction n with
  | zero => exact ⟨fun h => absurd h (by unfold cK; omega), fun ⟨i, h, _⟩ => by omega⟩
  | succ n ih =>
    rw [cK_s]
    constructor
    · intro h
      by_cases e : f n = v
      · exact ⟨n, by omega, e⟩
      · rw [if_neg e] at h
        obtain ⟨i, h1, h2⟩ := ih.mp (by omega)
        exact ⟨i, by omega, h2⟩
    · rintro ⟨i, h1, h2⟩
      by_cases e : i = n
      · subst e; rw [if_pos h2]; omega
      · have := ih.mpr ⟨i, by omega, h2⟩; omega
/-- a row of the table of longest common sequences -/
def lgQ (prev : Nat → Nat) (e : Nat → Bool) : Nat → Nat
  | 0 => 0
  | q + 1 => if e q = true then prev q + 1 else max (prev (q + 1)) (lgQ prev e q)
/-- the table: r and q letters are left of the texts -/
def lgR (eq : Nat → Nat → Bool) (n0 n1 : Nat) : Nat → Nat → Nat
  | 0 => fun _ => 0
  | r + 1 => lgQ (lgR eq n0 n1 r) (fun q => eq (n0 - 1 - r) (n1 - 1 - q))
theorem lgR_0 {eq : Nat → Nat → Bool} {n0 n1 q : Nat} : lgR eq n0 n1 0 q = 0 := rfl
theorem lgR_z {eq : Nat → Nat → Bool} {n0 n1 r : Nat} : lgR eq n0 n1 r 0 = 0 := by cases r <;> rfl
theorem lgR_s {eq : Nat → Nat → Bool} {n0 n1 r q : Nat} : lgR eq n0 n1 (r + 1) (q + 1) = if eq (n0 - 1 - r) (n1 - 1 - q) = true then lgR eq n0 n1 r q + 1 else max (lgR eq n0 n1 r (q + 1)) (lgR eq n0 n1 (r + 1) q) := rfl
theorem lgR_m {eq : Nat → Nat → Bool} {n0 n1 : Nat} : ∀ r q, lgR eq n0 n1 r q ≤ lgR eq n0 n1 (r + 1) q ∧ lgR eq n0 n1 (r + 1) q ≤ lgR eq n0 n1 r q + 1 ∧ lgR eq n0 n1 r q ≤ lgR eq n0 n1 r (q + 1) ∧ lgR eq n0 n1 r (q + 1) ≤ lgR eq n0 n1 r q + 1 := by
  intro r
  induction r with
  | zero =>
    intro q
    rw [lgR_0, lgR_0]
    have : ∀ q, lgR eq n0 n1 (0 + 1) q ≤ 1 := by
      intro q
      induction q with
      | zero => rw [lgR_z]; omega
      | succ q ih => rw [lgR_s, lgR_0, lgR_0]; split <;> omega
    have := this q
    omega
  | succ r ih =>
    intro q
    have rowm : ∀ q, lgR eq n0 n1 (r + 1) q ≤ lgR eq n0 n1 (r + 1) (q + 1) ∧ lgR eq n0 n1 (r + 1) (q + 1) ≤ lgR eq n0 n1 (r + 1) q + 1 := by
      intro q
      have i1 := ih q
      have i2 := ih (q + 1)
      rw [lgR_s]
      split <;> omega
    have h2 : ∀ q, lgR eq n0 n1 (r + 1) q ≤ lgR eq n0 n1 (r + 1 + 1) q ∧ lgR eq n0 n1 (r + 1 + 1) q ≤ lgR eq n0 n1 (r + 1) q + 1 := by
      intro q
      induction q with
      | zero => rw [lgR_z, lgR_z]; omega
      | succ q ih2 =>
        have i1 := rowm q
        rw [lgR_s (r := r + 1)]
        split <;> omega
    have a1 := h2 q
    have a2 := rowm q
    omega
/-- how long a common sequence the rests from i and j have -/
def lgT (eq : Nat → Nat → Bool) (n0 n1 i j : Nat) : Nat := lgR eq n0 n1 (n0 - i) (n1 - j)
theorem lgT_le {eq : Nat → Nat → Bool} {n0 n1 i j : Nat} (hi : i < n0) : lgT eq n0 n1 (i + 1) j ≤ lgT eq n0 n1 i j := by
  unfold lgT
  have := (lgR_m (eq := eq) (n0 := n0) (n1 := n1) (n0 - (i + 1)) (n1 - j)).1
  rw [show n0 - (i + 1) + 1 = n0 - i by omega] at this
  exact this
theorem lgT_s {eq : Nat → Nat → Bool} {n0 n1 i j : Nat} (hi : i < n0) (hj : j < n1) : lgT eq n0 n1 i j = if eq i j = true then lgT eq n0 n1 (i + 1) (j + 1) + 1 else max (lgT eq n0 n1 (i + 1) j) (lgT eq n0 n1 i (j + 1)) := by
  unfold lgT
  have := lgR_s (eq := eq) (n0 := n0) (n1 := n1) (r := n0 - (i + 1)) (q := n1 - (j + 1))
  rw [show n0 - (i + 1) + 1 = n0 - i by omega, show n1 - (j + 1) + 1 = n1 - j by omega, show n0 - 1 - (n0 - (i + 1)) = i by omega, show n1 - 1 - (n1 - (j + 1)) = j by omega] at this
  exact this
theorem lgT_z {eq : Nat → Nat → Bool} {n0 n1 i j : Nat} (h : n0 ≤ i ∨ n1 ≤ j) : lgT eq n0 n1 i j = 0 := by
  unfold lgT
  rcases h with h | h
  · rw [show n0 - i = 0 by omega]; rfl
  · rw [show n1 - j = 0 by omega, lgR_z]
theorem lgT_max {eq : Nat → Nat → Bool} {n0 n1 i j : Nat} (hi : i < n0) (hj : j < n1) (e : eq i j = true) : lgT eq n0 n1 (i + 1) j ≤ lgT eq n0 n1 (i + 1) (j + 1) + 1 ∧ lgT eq n0 n1 i (j + 1) ≤ lgT eq n0 n1 (i + 1) (j + 1) + 1 := by
  unfold lgT
  have a1 := (lgR_m (eq := eq) (n0 := n0) (n1 := n1) (n0 - (i + 1)) (n1 - (j + 1)))
  rw [show n0 - (i + 1) + 1 = n0 - i by omega, show n1 - (j + 1) + 1 = n1 - j by omega] at a1
  omega
theorem lgT_bd {eq : Nat → Nat → Bool} {n0 n1 i j : Nat} : lgT eq n0 n1 i j ≤ n0 := by
  unfold lgT
  have : ∀ r q, lgR eq n0 n1 r q ≤ r := by
    intro r
    induction r with
    | zero => intro q; rw [lgR_0]; omega
    | succ r ih => intro q; have := (lgR_m (eq := eq) (n0 := n0) (n1 := n1) r q).2.1; have := ih q; omega
  have := this (n0 - i) (n1 - j)
  omega
/-- the first of the k numbers from j on -/
def fnd (P : Nat → Bool) : Nat → Nat → Option Nat
  | 0, _ => none
  | k + 1, j => if P j = true then some j else fnd P k (j + 1)
theorem fnd_none {P : Nat → Bool} {k j : Nat} : fnd P k j = none ↔ ∀ x, j ≤ x → x < j + k → P x = false := by
  induction k generalizing j with
  | zero => exact ⟨fun _ x h1 h2 => by omega, fun _ => rfl⟩
  | succ k ih =>
    show (if P j = true then some j else fnd P k (j + 1)) = none ↔ _
    constructor
    · intro h x h1 h2
      split at h
      · cases h
      next hp =>
        by_cases e : x = j
        · rw [e]; simpa using hp
        · exact ih.mp h x (by omega) (by omega)
    · intro h
      rw [if_neg (by rw [h j (by omega) (by omega)]; decide)]
      exact ih.mpr (fun x h1 h2 => h x (by omega) (by omega))
theorem fnd_some {P : Nat → Bool} {k j x : Nat} (h : fnd P k j = some x) : j ≤ x ∧ x < j + k ∧ P x = true ∧ ∀ y, j ≤ y → y < x → P y = false := by
  induction k generalizing j with
  | zero => cases h
  | succ k ih =>
    have h : (if P j = true then some j else fnd P k (j + 1)) = some x := h
    split at h
    next hp => cases h; exact ⟨by omega, by omega, hp, fun y h1 h2 => by omega⟩
    next hp =>
      have i := ih h
      refine ⟨by omega, by omega, i.2.2.1, fun y h1 h2 => ?_⟩
      by_cases e : y = j
      · rw [e]; simpa using hp
      · exact i.2.2.2 y (by omega) h2
theorem fnd_is {P : Nat → Bool} {k j x : Nat} (h1 : j ≤ x) (h2 : x < j + k) (h3 : P x = true) (h4 : ∀ y, j ≤ y → y < x → P y = false) : fnd P k j = some x := by
  cases e : fnd P k j with
  | none => rw [fnd_none.mp e x h1 h2] at h3; cases h3
  | some y =>
    have := fnd_some e
    by_cases h5 : y < x
    · rw [h4 y (by omega) h5] at this; exact absurd this.2.2.1 (by decide)
    · by_cases h6 : x < y
      · rw [this.2.2.2 x h1 h6] at h3; cases h3
      · rw [show y = x by omega]
/-- where the letter i of the first text finds its common one -/
def cmP (eq : Nat → Nat → Bool) (n0 n1 i fr : Nat) (j : Nat) : Bool := eq i j && decide (lgT eq n0 n1 (i + 1) (j + 1) + 1 = lgT eq n0 n1 i fr)
/-- pairs: partner of first, of second, kind of first, of second -/
abbrev PT : Type := (Nat → Int) × (Nat → Int) × (Nat → Int) × (Nat → Int)
def pE : PT := (fun _ => -1, fun _ => -1, fun _ => 4, fun _ => 5)
def pup (σ : PT) (i j : Nat) (k : Int) : PT := (un σ.1 i j, un σ.2.1 j i, un σ.2.2.1 i k, un σ.2.2.2 j k)
def cmS (eq : Nat → Nat → Bool) (n0 n1 : Nat) (i : Nat) (z : Nat × PT) : Nat × PT := match fnd (cmP eq n0 n1 i z.1) (n1 - z.1) z.1 with
  | none => z
  | some j => (j + 1, pup z.2 i j 1)
def cmn (eq : Nat → Nat → Bool) (n0 n1 : Nat) : Nat → Nat × PT
  | 0 => (0, pE)
  | i + 1 => cmS eq n0 n1 i (cmn eq n0 n1 i)
theorem cm_stay {eq : Nat → Nat → Bool} {n0 n1 i : Nat} (hi : i < n0) : ∀ d j, n1 - j = d → (∀ x, j ≤ x → x < n1 → cmP eq n0 n1 i j x = false) → lgT eq n0 n1 (i + 1) j = lgT eq n0 n1 i j := by
  intro d
  induction d with
  | zero => intro j hd _; rw [lgT_z (.inr (by omega)), lgT_z (.inr (by omega))]
  | succ d ih =>
    intro j hd hx
    have hj : j < n1 := by omega
    have hs := lgT_s (eq := eq) hi hj
    have h0 := hx j (Nat.le_refl _) hj
    have hl := lgT_le (eq := eq) (j := j) (n1 := n1) hi
    by_cases e : eq i j = true
    · rw [if_pos e] at hs
      unfold cmP at h0
      rw [e, ← hs] at h0
      simp at h0
    · rw [if_neg e] at hs
      by_cases h5 : lgT eq n0 n1 (i + 1) j = lgT eq n0 n1 i j
      · exact h5
      · have h6 : lgT eq n0 n1 i (j + 1) = lgT eq n0 n1 i j := by omega
        have h7 := ih (j + 1) (by omega) (fun x h1 h2 => by
          have := hx x (by omega) h2
          unfold cmP at this ⊢
          rw [h6]; exact this)
        have h8 : lgT eq n0 n1 (i + 1) (j + 1) ≤ lgT eq n0 n1 (i + 1) j := by
          unfold lgT
          have := (lgR_m (eq := eq) (n0 := n0) (n1 := n1) (n0 - (i + 1)) (n1 - (j + 1))).2.2.1
          rw [show n1 - (j + 1) + 1 = n1 - j by omega] at this
          exact this
        omega
/-- what is so of the pairs all along: i letters of the first text have been looked at, below fr in the second -/
def pw (n0 n1 : Nat) (σ : PT) : Prop := (∀ i, i < n0 → σ.1 i = -1 ∧ σ.2.2.1 i = 4 ∨ ∃ j, j < n1 ∧ σ.1 i = (j : Int) ∧ σ.2.1 j = (i : Int) ∧ σ.2.2.1 i = σ.2.2.2 j ∧ 1 ≤ σ.2.2.1 i ∧ σ.2.2.1 i ≤ 3) ∧ (∀ j, j < n1 → σ.2.1 j = -1 ∧ σ.2.2.2 j = 5 ∨ ∃ i, i < n0 ∧ σ.2.1 j = (i : Int) ∧ σ.1 i = (j : Int))
theorem pw_0 {n0 n1 : Nat} : pw n0 n1 pE := ⟨fun _ _ => .inl ⟨rfl, rfl⟩, fun _ _ => .inl ⟨rfl, rfl⟩⟩
theorem pw_up {n0 n1 i j : Nat} {k : Int} {σ : PT} (w : pw n0 n1 σ) (hi : i < n0) (hj : j < n1) (h1 : σ.1 i = -1) (h2 : σ.2.1 j = -1) (hk : 1 ≤ k ∧ k ≤ 3) : pw n0 n1 (pup σ i j k) := by
  obtain ⟨w1, w2⟩ := w
  refine ⟨fun x hx => ?_, fun y hy => ?_⟩
  · by_cases e : x = i
    · subst e
      refine .inr ⟨j, hj, un_s, un_s, ?_, ?_, ?_⟩
      · show un _ x k x = un _ j k j; rw [un_s, un_s]
      · show 1 ≤ un _ x k x; rw [un_s]; exact hk.1
      · show un _ x k x ≤ 3; rw [un_s]; exact hk.2
    · show un _ i _ x = -1 ∧ un _ i _ x = 4 ∨ ∃ j', _ ∧ un _ i _ x = _ ∧ un _ j _ j' = _ ∧ un _ i _ x = un _ j _ j' ∧ 1 ≤ un _ i _ x ∧ un _ i _ x ≤ 3
      rw [un_n e, un_n e]
      rcases w1 x hx with h | ⟨j', a1, a2, a3, a4⟩
      · exact .inl h
      · refine .inr ⟨j', a1, a2, ?_⟩
        have : j' ≠ j := by intro e2; rw [e2, h2] at a3; omega
        rw [un_n this, un_n this]
        exact ⟨a3, a4⟩
  · by_cases e : y = j
    · subst e; exact .inr ⟨i, hi, un_s, un_s⟩
    · show un _ j _ y = -1 ∧ un _ j _ y = 5 ∨ ∃ i', _ ∧ un _ j _ y = _ ∧ un _ i _ i' = _
      rw [un_n e, un_n e]
      rcases w2 y hy with h | ⟨i', a1, a2, a3⟩
      · exact .inl h
      · refine .inr ⟨i', a1, a2, ?_⟩
        have : i' ≠ i := by intro e2; rw [e2, h1] at a3; omega
        rw [un_n this]; exact a3
theorem pw_free {n0 n1 i : Nat} {σ : PT} (w : pw n0 n1 σ) (hi : i < n0) : σ.1 i = -1 ↔ σ.2.2.1 i = 4 := by
  rcases w.1 i hi with h | ⟨j, h1, h2, h3, h4, h5, h6⟩
  · exact ⟨fun _ => h.2, fun _ => h.1⟩
  · constructor <;> intro h <;> omega
theorem pw_free2 {n0 n1 j : Nat} {σ : PT} (w : pw n0 n1 σ) (hj : j < n1) (h : σ.2.1 j = -1) : σ.2.2.2 j = 5 := by
  rcases w.2 j hj with h | ⟨i, h1, h2, h3⟩
  · exact h.2
  · omega
theorem cmn_w {eq : Nat → Nat → Bool} {n0 n1 : Nat} : ∀ i, i ≤ n0 → pw n0 n1 (cmn eq n0 n1 i).2 ∧ (cmn eq n0 n1 i).1 ≤ n1 ∧ (∀ x, i ≤ x → (cmn eq n0 n1 i).2.1 x = -1) ∧ ∀ y, (cmn eq n0 n1 i).1 ≤ y → (cmn eq n0 n1 i).2.2.1 y = -1 := by
  intro i
  induction i with
  | zero => intro _; exact ⟨pw_0, Nat.zero_le _, fun _ _ => rfl, fun _ _ => rfl⟩
  | succ i ih =>
    intro hi
    obtain ⟨a1, a2, a3, a4⟩ := ih (by omega)
    show pw n0 n1 (cmS eq n0 n1 i (cmn eq n0 n1 i)).2 ∧ (cmS eq n0 n1 i (cmn eq n0 n1 i)).1 ≤ n1 ∧ (∀ x, i + 1 ≤ x → (cmS eq n0 n1 i (cmn eq n0 n1 i)).2.1 x = -1) ∧ ∀ y, (cmS eq n0 n1 i (cmn eq n0 n1 i)).1 ≤ y → (cmS eq n0 n1 i (cmn eq n0 n1 i)).2.2.1 y = -1
    unfold cmS
    cases e : fnd (cmP eq n0 n1 i (cmn eq n0 n1 i).1) (n1 - (cmn eq n0 n1 i).1) (cmn eq n0 n1 i).1 with
    | none => exact ⟨a1, a2, fun x hx => a3 x (by omega), a4⟩
    | some j =>
      have f := fnd_some e
      refine ⟨pw_up a1 (by omega) (by omega) (a3 i (by omega)) (a4 j f.1) (by omega), by show j + 1 ≤ n1; omega, fun x hx => ?_, fun y hy => ?_⟩
      · show un _ i _ x = -1
        rw [un_n (by omega)]; exact a3 x (by omega)
      · have hy : j + 1 ≤ y := hy
        show un _ j _ y = -1
        rw [un_n (by omega)]; exact a4 y (by omega)
/-- the nearest two that may be paired: a pass over all -/
def sc1 (can : Nat → Nat → Bool) (d : Nat → Nat → Int) (b : Option (Nat × Nat)) (i j : Nat) : Option (Nat × Nat) := match b with
  | none => if can i j = true then some (i, j) else none
  | some (x, y) => if can i j = true ∧ d i j < d x y then some (i, j) else some (x, y)
def scJ (can : Nat → Nat → Bool) (d : Nat → Nat → Int) (i : Nat) (b : Option (Nat × Nat)) : Nat → Option (Nat × Nat)
  | 0 => b
  | j + 1 => sc1 can d (scJ can d i b j) i j
def scI (can : Nat → Nat → Bool) (d : Nat → Nat → Int) (n1 : Nat) : Nat → Option (Nat × Nat)
  | 0 => none
  | i + 1 => scJ can d i (scI can d n1 i) n1
def scW (can : Nat → Nat → Bool) (n0 n1 : Nat) (b : Option (Nat × Nat)) : Prop := ∀ x y, b = some (x, y) → x < n0 ∧ y < n1 ∧ can x y = true
theorem sc1_w {can : Nat → Nat → Bool} {d : Nat → Nat → Int} {n0 n1 i j : Nat} {b : Option (Nat × Nat)} (w : scW can n0 n1 b) (hi : i < n0) (hj : j < n1) : scW can n0 n1 (sc1 can d b i j) := by
  intro x y h
  unfold sc1 at h
  cases b with
  | none =>
    simp only at h
    split at h
    next e => cases h; exact ⟨hi, hj, e⟩
    next => cases h
  | some z =>
    obtain ⟨p, q⟩ := z
    simp only at h
    split at h
    next e => cases h; exact ⟨hi, hj, e.1⟩
    next => cases h; exact w _ _ rfl
theorem scJ_w {can : Nat → Nat → Bool} {d : Nat → Nat → Int} {n0 n1 i : Nat} {b : Option (Nat × Nat)} (w : scW can n0 n1 b) (hi : i < n0) : ∀ j, j ≤ n1 → scW can n0 n1 (scJ can d i b j) := by
  intro j
  induction j with
  | zero => intro _; exact w
  | succ j ih => intro hj; exact sc1_w (ih (by omega)) hi (by omega)
theorem scI_w {can : Nat → Nat → Bool} {d : Nat → Nat → Int} {n0 n1 : Nat} : ∀ i, i ≤ n0 → scW can n0 n1 (scI can d n1 i) := by
  intro i
  induction i with
  | zero => intro _ x y h; cases h
  | succ i ih => intro hi; exact scJ_w (ih (by omega)) (by omega) n1 (Nat.le_refl _)
theorem sc1_some {can : Nat → Nat → Bool} {d : Nat → Nat → Int} {i j : Nat} {b : Option (Nat × Nat)} (h : b ≠ none ∨ can i j = true) : sc1 can d b i j ≠ none := by
  unfold sc1
  cases b with
  | none => rcases h with h | h
            · exact absurd rfl h
            · simp [h]
  | some z => obtain ⟨p, q⟩ := z; simp only; split <;> exact fun h => by cases h
theorem scJ_some {can : Nat → Nat → Bool} {d : Nat → Nat → Int} {i : Nat} {b : Option (Nat × Nat)} : ∀ n, (b ≠ none ∨ ∃ j, j < n ∧ can i j = true) → scJ can d i b n ≠ none := by
  intro n
  induction n with
  | zero => rintro (h | ⟨j, h, _⟩)
            · exact h
            · omega
  | succ n ih =>
    intro h
    refine sc1_some ?_
    rcases h with h | ⟨j, h1, h2⟩
    · exact .inl (ih (.inl h))
    · by_cases e : j = n
      · rw [← e]; exact .inr h2
      · exact .inl (ih (.inr ⟨j, by omega, h2⟩))
theorem scI_none {can : Nat → Nat → Bool} {d : Nat → Nat → Int} {n1 : Nat} : ∀ n, scI can d n1 n = none → ∀ i j, i < n → j < n1 → can i j = false := by
  intro n
  induction n with
  | zero => intro _ i j h; omega
  | succ n ih =>
    intro h i j hi hj
    by_cases e : i = n
    · subst e
      cases hc : can i j with
      | false => rfl
      | true => exact absurd h (scJ_some n1 (.inr ⟨j, hj, hc⟩))
    · have : scI can d n1 n = none := by
        cases e2 : scI can d n1 n with
        | none => rfl
        | some z => exact absurd h (scJ_some n1 (.inl (by rw [e2]; exact fun h => by cases h)))
      exact ih this i j (by omega) hj
/-- the rounds of pairing the nearest: canF says what may be paired at which pairs -/
def nr1 (canF : PT → Nat → Nat → Bool) (d : Nat → Nat → Int) (n0 n1 : Nat) (k : Int) (σ : PT) : PT := match scI (canF σ) d n1 n0 with
  | none => σ
  | some (i, j) => pup σ i j k
def nrs (canF : PT → Nat → Nat → Bool) (d : Nat → Nat → Int) (n0 n1 : Nat) (k : Int) (σ : PT) : Nat → PT
  | 0 => σ
  | m + 1 => nr1 canF d n0 n1 k (nrs canF d n0 n1 k σ m)
theorem nr1_w {canF : PT → Nat → Nat → Bool} {d : Nat → Nat → Int} {n0 n1 : Nat} {k : Int} {σ : PT} (hk : 1 ≤ k ∧ k ≤ 3) (hc : ∀ τ i j, canF τ i j = true → τ.1 i = -1 ∧ τ.2.1 j = -1) (w : pw n0 n1 σ) : pw n0 n1 (nr1 canF d n0 n1 k σ) := by
  unfold nr1
  cases e : scI (canF σ) d n1 n0 with
  | none => exact w
  | some z =>
    obtain ⟨i, j⟩ := z
    have := scI_w (d := d) (can := canF σ) (n1 := n1) n0 (Nat.le_refl _) i j e
    have h2 := hc _ _ _ this.2.2
    exact pw_up w this.1 this.2.1 h2.1 h2.2 hk
theorem nrs_w {canF : PT → Nat → Nat → Bool} {d : Nat → Nat → Int} {n0 n1 : Nat} {k : Int} {σ : PT} (hk : 1 ≤ k ∧ k ≤ 3) (hc : ∀ τ i j, canF τ i j = true → τ.1 i = -1 ∧ τ.2.1 j = -1) (w : pw n0 n1 σ) (m : Nat) : pw n0 n1 (nrs canF d n0 n1 k σ m) := by
  induction m with
  | zero => exact w
  | succ m ih => exact nr1_w hk hc ih
/-- free letters of the first text get fewer with each pair -/
theorem nrs_free {canF : PT → Nat → Nat → Bool} {d : Nat → Nat → Int} {n0 n1 : Nat} {k : Int} {σ : PT} (hc : ∀ τ i j, canF τ i j = true → τ.1 i = -1 ∧ τ.2.1 j = -1) : ∀ m, scI (canF (nrs canF d n0 n1 k σ m)) d n1 n0 = none ∨ cK (nrs canF d n0 n1 k σ m).1 n0 (-1) + m ≤ n0 := by
  intro m
  induction m with
  | zero => exact .inr (by have := cK_le (f := σ.1) (n := n0) (v := -1); exact this)
  | succ m ih =>
    show scI (canF (nr1 canF d n0 n1 k (nrs canF d n0 n1 k σ m))) d n1 n0 = none ∨ cK (nr1 canF d n0 n1 k (nrs canF d n0 n1 k σ m)).1 n0 (-1) + (m + 1) ≤ n0
    unfold nr1
    cases e : scI (canF (nrs canF d n0 n1 k σ m)) d n1 n0 with
    | none => exact .inl e
    | some z =>
      obtain ⟨i, j⟩ := z
      have h1 := scI_w (d := d) (can := canF (nrs canF d n0 n1 k σ m)) (n1 := n1) n0 (Nat.le_refl _) i j e
      have h2 := hc _ _ _ h1.2.2
      refine .inr ?_
      rcases ih with ih | ih
      · rw [ih] at e; cases e
      · show cK (un _ i (j : Int)) n0 (-1) + (m + 1) ≤ n0
        have := cK_un (f := (nrs canF d n0 n1 k σ m).1) (v := -1) (w := (j : Int)) h1.1
        rw [if_pos h2.1, if_neg (by omega)] at this
        omega
theorem nrs_done {canF : PT → Nat → Nat → Bool} {d : Nat → Nat → Int} {n0 n1 : Nat} {k : Int} {σ : PT} (hc : ∀ τ i j, canF τ i j = true → τ.1 i = -1 ∧ τ.2.1 j = -1) {m : Nat} (hm : n0 ≤ m) : scI (canF (nrs canF d n0 n1 k σ m)) d n1 n0 = none := by
  rcases nrs_free (d := d) (n1 := n1) (k := k) (σ := σ) hc m with h | h
  · exact h
  · cases e : scI (canF (nrs canF d n0 n1 k σ m)) d n1 n0 with
    | none => rfl
    | some z =>
      obtain ⟨i, j⟩ := z
      have h1 := scI_w (d := d) (can := canF (nrs canF d n0 n1 k σ m)) (n1 := n1) n0 (Nat.le_refl _) i j e
      have h2 := hc _ _ _ h1.2.2
      have := cK_pos.mpr ⟨i, h1.1, h2.1⟩
      omega
theorem nrs_stay {canF : PT → Nat → Nat → Bool} {d : Nat → Nat → Int} {n0 n1 : Nat} {k : Int} {σ : PT} {m : Nat} (h : scI (canF (nrs canF d n0 n1 k σ m)) d n1 n0 = none) : ∀ x, nrs canF d n0 n1 k σ (m + x) = nrs canF d n0 n1 k σ m := by
  intro x
  induction x with
  | zero => rfl
  | succ x ih =>
    show nr1 canF d n0 n1 k (nrs canF d n0 n1 k σ (m + x)) = _
    rw [ih]; unfold nr1; rw [h]
theorem Lc_lt {c : Nat → Int} {i : Nat} (h : i < Nc c) : Lc c i < 80 := (cp_ok h).1
theorem Lc_nb {c : Nat → Int} {i : Nat} (h : i < Nc c) : c (Lc c i) ≠ 32 := (cp_ok h).2.1
theorem Lc_cn {c : Nat → Int} {i : Nat} (h : i < Nc c) : cn c (Lc c i) = i := (cp_ok h).2.2
/-- distances and what may be paired, by the texts and the settings -/
def ab1 (x : Int) : Int := if 0 ≤ x then x else 0 - x
def dsc (w : Int) (a b : Nat) : Int := ab1 ((a : Int) % 16 - (b : Int) % 16) + w * ab1 ((a : Int) / 16 - (b : Int) / 16)
abbrev Ac (c : Nat → Int) (i : Nat) : Int := c (Lc c i)
def eqB (c0 c1 : Nat → Int) (i j : Nat) : Bool := decide (Ac c0 i = Ac c1 j)
def dsL (c0 c1 st : Nat → Int) (i j : Nat) : Int := dsc (st 0) (Lc c0 i) (Lc c1 j)
def canP (c0 c1 st : Nat → Int) (k reach : Int) (σ : PT) (i j : Nat) : Bool := decide (σ.1 i = -1) && decide (σ.2.1 j = -1) && (decide (k ≠ 2) || eqB c0 c1 i j) && (decide (st 3 = 0) || decide (Lc c0 i / 16 = Lc c1 j / 16)) && decide (dsL c0 c1 st i j ≤ reach)
def prC (c0 c1 : Nat → Int) : PT := (cmn (eqB c0 c1) (Nc c0) (Nc c1) (Nc c0)).2
def prM (c0 c1 st : Nat → Int) : PT := nrs (canP c0 c1 st 2 (st 1)) (dsL c0 c1 st) (Nc c0) (Nc c1) 2 (prC c0 c1) 40
def prA (c0 c1 st : Nat → Int) : PT := nrs (canP c0 c1 st 3 (st 2)) (dsL c0 c1 st) (Nc c0) (Nc c1) 3 (prM c0 c1 st) 40
theorem canP_free {c0 c1 st : Nat → Int} {k reach : Int} (τ : PT) (i j : Nat) (h : canP c0 c1 st k reach τ i j = true) : τ.1 i = -1 ∧ τ.2.1 j = -1 := by
  unfold canP at h
  simp only [Bool.and_eq_true, decide_eq_true_eq] at h
  exact ⟨h.1.1.1.1, h.1.1.1.2⟩
theorem pw_A {c0 c1 st : Nat → Int} : pw (Nc c0) (Nc c1) (prA c0 c1 st) := nrs_w (by omega) canP_free (nrs_w (by omega) canP_free (cmn_w _ (Nat.le_refl _)).1 40) 40
theorem ab1_bd {x n : Int} (h1 : -n ≤ x) (h2 : x ≤ n) : 0 ≤ ab1 x ∧ ab1 x ≤ n := by
  unfold ab1; split <;> omega
theorem dsc_bd {w : Int} {a b : Nat} (hw : 0 ≤ w ∧ w ≤ 9) (ha : a < 80) (hb : b < 80) : 0 ≤ dsc w a b ∧ dsc w a b ≤ 51 := by
  unfold dsc
  have h1 := ab1_bd (x := (a : Int) % 16 - (b : Int) % 16) (n := 15) (by omega) (by omega)
  have h2 := ab1_bd (x := (a : Int) / 16 - (b : Int) / 16) (n := 4) (by omega) (by omega)
  generalize ab1 ((a : Int) / 16 - (b : Int) / 16) = z at h2 ⊢
  have h3 : 0 ≤ w * z := Int.mul_nonneg hw.1 h2.1
  have h4 : w * z ≤ 9 * 4 := Int.mul_le_mul hw.2 h2.2 h2.1 (by omega)
  omega
