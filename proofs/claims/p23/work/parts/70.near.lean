/-! SECOND LAW, 1: the nearest pairs, by rising distances -/
def btt (d : Nat → Nat → Int) (i j x y : Nat) : Prop := d i j < d x y ∨ d i j = d x y ∧ (i < x ∨ i = x ∧ j ≤ y)
theorem scJ_min {can : Nat → Nat → Bool} {d : Nat → Nat → Int} {i n1 : Nat} {b : Option (Nat × Nat)} (hb : ∀ x y, b = some (x, y) → x < i ∧ ∀ a c, a < i → c < n1 → can a c = true → btt d x y a c) (hb0 : b = none → ∀ a c, a < i → c < n1 → can a c = false) : ∀ n, n ≤ n1 → ∀ x y, scJ can d i b n = some (x, y) → (x < i ∨ x = i ∧ y < n) ∧ ∀ a c, (a < i ∧ c < n1 ∨ a = i ∧ c < n) → can a c = true → btt d x y a c := by
  intro n
  induction n with
  | zero =>
    intro _ x y h
    obtain ⟨h1, h2⟩ := hb x y h
    exact ⟨.inl h1, fun a c hac hc => h2 a c (by omega) (by omega) hc⟩
  | succ n ih =>
    intro hn x y h
    have h : sc1 can d (scJ can d i b n) i n = some (x, y) := h
    unfold sc1 at h
    cases e : scJ can d i b n with
    | none =>
      rw [e] at h
      simp only at h
      split at h
      next hc0 =>
        cases h
        refine ⟨.inr ⟨rfl, by omega⟩, fun a c hac hc => ?_⟩
        have bn : b = none := by
          cases hbn : b with
          | none => rfl
          | some z => exact absurd e (scJ_some n (.inl (by rw [hbn]; exact fun h => by cases h)))
        by_cases h5 : a = i ∧ c = n
        · obtain ⟨rfl, rfl⟩ := h5; exact .inr ⟨rfl, .inr ⟨rfl, Nat.le_refl _⟩⟩
        · exfalso
          by_cases h6 : a < i
          · rw [hb0 bn a c h6 (by omega)] at hc; cases hc
          · have h7 : a = i := by omega
            subst h7
            exact absurd e (scJ_some n (.inr ⟨c, by omega, hc⟩))
      next => cases h
    | some z =>
      obtain ⟨p, q⟩ := z
      rw [e] at h
      simp only at h
      obtain ⟨i1, i2⟩ := ih (by omega) p q e
      split at h
      next hc0 =>
        cases h
        refine ⟨.inr ⟨rfl, by omega⟩, fun a c hac hc => ?_⟩
        by_cases h5 : a = i ∧ c = n
        · obtain ⟨rfl, rfl⟩ := h5; exact .inr ⟨rfl, .inr ⟨rfl, Nat.le_refl _⟩⟩
        · have h6 := i2 a c (by omega) hc
          have h7 := hc0.2
          unfold btt at h6
          refine .inl ?_
          omega
      next hc0 =>
        cases h
        refine ⟨by omega, fun a c hac hc => ?_⟩
        by_cases h5 : a = i ∧ c = n
        · obtain ⟨rfl, rfl⟩ := h5
          have h6 : ¬ d a c < d x y := fun h => hc0 ⟨hc, h⟩
          unfold btt
          omega
        · exact i2 a c (by omega) hc
theorem scI_min {can : Nat → Nat → Bool} {d : Nat → Nat → Int} {n1 : Nat} : ∀ n x y, scI can d n1 n = some (x, y) → x < n ∧ ∀ a c, a < n → c < n1 → can a c = true → btt d x y a c := by
  intro n
  induction n with
  | zero => intro x y h; cases h
  | succ n ih =>
    intro x y h
    have h : scJ can d n (scI can d n1 n) n1 = some (x, y) := h
    have k := scJ_min (n1 := n1) (fun x y h => ih x y h) (fun h => scI_none n h) n1 (Nat.le_refl _) x y h
    exact ⟨by omega, fun a c ha hc hac => k.2 a c (by omega) hac⟩
theorem scI_is {can : Nat → Nat → Bool} {d : Nat → Nat → Int} {n0 n1 i j : Nat} (hi : i < n0) (hj : j < n1) (hc : can i j = true) (h : ∀ a c, a < n0 → c < n1 → can a c = true → btt d i j a c) : scI can d n1 n0 = some (i, j) := by
  cases e : scI can d n1 n0 with
  | none => rw [scI_none n0 e i j hi hj] at hc; cases hc
  | some z =>
    obtain ⟨x, y⟩ := z
    have h1 := (scI_min n0 x y e).2 i j hi hj hc
    have h2 := scI_w (d := d) (can := can) (n1 := n1) n0 (Nat.le_refl _) x y e
    have h3 := h x y h2.1 h2.2.1 h2.2.2
    unfold btt at h1 h3
    have e1 : x = i := by omega
    have e2 : y = j := by omega
    rw [e1, e2]
theorem nrs_40 {canF : PT → Nat → Nat → Bool} {d : Nat → Nat → Int} {n0 n1 m : Nat} {k : Int} {σ : PT} (hc : ∀ τ i j, canF τ i j = true → τ.1 i = -1 ∧ τ.2.1 j = -1) (hn : n0 ≤ 40) (h : scI (canF (nrs canF d n0 n1 k σ m)) d n1 n0 = none) : nrs canF d n0 n1 k σ m = nrs canF d n0 n1 k σ 40 := by
  by_cases e : m ≤ 40
  · have := nrs_stay h (40 - m)
    rw [show m + (40 - m) = 40 by omega] at this
    exact this.symm
  · have := nrs_stay (nrs_done (d := d) (n1 := n1) (k := k) (σ := σ) hc (m := 40) hn) (m - 40)
    rw [show 40 + (m - 40) = m by omega] at this
    exact this
/-- no pair is left below this distance, and with it ahead of (i, j) -/
def NBw (c0 c1 st : Nat → Int) (k reach : Int) (σ : PT) (n0 n1 : Nat) (w : Int) (i j : Nat) : Prop := ∀ a c, a < n0 → c < n1 → canP c0 c1 st k reach σ a c = true → w < dsL c0 c1 st a c ∨ dsL c0 c1 st a c = w ∧ (i < a ∨ i = a ∧ j ≤ c)
theorem canP_up {c0 c1 st : Nat → Int} {k reach v : Int} {σ : PT} {i j a c : Nat} (h : canP c0 c1 st k reach (pup σ i j v) a c = true) : canP c0 c1 st k reach σ a c = true ∧ a ≠ i ∧ c ≠ j := by
  have f := canP_free _ _ _ h
  have f1 : un σ.1 i (j : Int) a = -1 := f.1
  have f2 : un σ.2.1 j (i : Int) c = -1 := f.2
  have n1 : a ≠ i := by intro e; rw [e, un_s] at f1; omega
  have n2 : c ≠ j := by intro e; rw [e, un_s] at f2; omega
  refine ⟨?_, n1, n2⟩
  unfold canP at h ⊢
  have g1 : (pup σ i j v).1 a = σ.1 a := un_n n1
  have g2 : (pup σ i j v).2.1 c = σ.2.1 c := un_n n2
  rw [g1, g2] at h
  exact h
theorem NBw.skip {c0 c1 st : Nat → Int} {k reach w : Int} {σ : PT} {n0 n1 i j : Nat} (N : NBw c0 c1 st k reach σ n0 n1 w i j) (h : ¬ (canP c0 c1 st k reach σ i j = true ∧ dsL c0 c1 st i j = w)) : NBw c0 c1 st k reach σ n0 n1 w i (j + 1) := by
  intro a c ha hc hac
  have h1 := N a c ha hc hac
  by_cases e : a = i ∧ c = j
  · obtain ⟨rfl, rfl⟩ := e
    have : ¬ dsL c0 c1 st a c = w := fun h2 => h ⟨hac, h2⟩
    omega
  · omega
theorem NBw.take {c0 c1 st : Nat → Int} {k reach w v : Int} {σ : PT} {n0 n1 i j : Nat} (N : NBw c0 c1 st k reach σ n0 n1 w i j) : NBw c0 c1 st k reach (pup σ i j v) n0 n1 w i (j + 1) := by
  intro a c ha hc hac
  obtain ⟨h0, h2, h3⟩ := canP_up hac
  have h1 := N a c ha hc h0
  omega
theorem NBw.is {c0 c1 st : Nat → Int} {k reach w : Int} {σ : PT} {n0 n1 i j : Nat} (N : NBw c0 c1 st k reach σ n0 n1 w i j) (hi : i < n0) (hj : j < n1) (h : canP c0 c1 st k reach σ i j = true) (hd : dsL c0 c1 st i j = w) : nr1 (canP c0 c1 st k reach) (dsL c0 c1 st) n0 n1 k σ = pup σ i j k := by
  have e : scI (canP c0 c1 st k reach σ) (dsL c0 c1 st) n1 n0 = some (i, j) := scI_is hi hj h (fun a c ha hc hac => by
    have := N a c ha hc hac
    unfold btt
    omega)
  unfold nr1
  rw [e]
theorem NBw.row {c0 c1 st : Nat → Int} {k reach w : Int} {σ : PT} {n0 n1 i : Nat} (N : NBw c0 c1 st k reach σ n0 n1 w i n1) : NBw c0 c1 st k reach σ n0 n1 w (i + 1) 0 := by
  intro a c ha hc hac
  have := N a c ha hc hac
  omega
theorem NBw.next {c0 c1 st : Nat → Int} {k reach w : Int} {σ : PT} {n0 n1 : Nat} (N : NBw c0 c1 st k reach σ n0 n1 w n0 0) : NBw c0 c1 st k reach σ n0 n1 (w + 1) 0 0 := by
  intro a c ha hc hac
  have := N a c ha hc hac
  omega
theorem NBw.start {c0 c1 st : Nat → Int} {k reach : Int} {σ : PT} {n0 n1 : Nat} (h : ∀ a c, a < n0 → c < n1 → 0 ≤ dsL c0 c1 st a c) : NBw c0 c1 st k reach σ n0 n1 0 0 0 := by
  intro a c ha hc hac
  have := h a c ha hc
  omega
theorem NBw.fin {c0 c1 st : Nat → Int} {k reach w : Int} {σ : PT} {n0 n1 : Nat} (N : NBw c0 c1 st k reach σ n0 n1 w 0 0) (hw : reach < w) : scI (canP c0 c1 st k reach σ) (dsL c0 c1 st) n1 n0 = none := by
  cases e : scI (canP c0 c1 st k reach σ) (dsL c0 c1 st) n1 n0 with
  | none => rfl
  | some z =>
    obtain ⟨x, y⟩ := z
    have h2 := scI_w (d := dsL c0 c1 st) (can := canP c0 c1 st k reach σ) (n1 := n1) n0 (Nat.le_refl _) x y e
    have h3 := N x y h2.1 h2.2.1 h2.2.2
    have h4 := h2.2.2
    unfold canP at h4
    simp only [Bool.and_eq_true, decide_eq_true_eq] at h4
    have := h4.2
    omega
