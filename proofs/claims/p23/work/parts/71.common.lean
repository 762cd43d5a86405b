/-! SECOND LAW, 2: common letters: the first of the longest of all sequences -/
theorem lgR_q {eq : Nat → Nat → Bool} {n0 n1 r : Nat} : ∀ q p, lgR eq n0 n1 r q ≤ lgR eq n0 n1 r (q + p) := by
  intro q p
  induction p with
  | zero => exact Nat.le_refl _
  | succ p ih => exact Nat.le_trans ih (lgR_m r (q + p)).2.2.1
theorem lgT_j {eq : Nat → Nat → Bool} {n0 n1 i j j' : Nat} (h : j ≤ j') : lgT eq n0 n1 i j' ≤ lgT eq n0 n1 i j := by
  unfold lgT
  have := lgR_q (eq := eq) (n0 := n0) (n1 := n1) (r := n0 - i) (n1 - j') (n1 - j - (n1 - j'))
  rw [show n1 - j' + (n1 - j - (n1 - j')) = n1 - j by omega] at this
  exact this
theorem lgT_take {eq : Nat → Nat → Bool} {n0 n1 i j fr : Nat} (hi : i < n0) (hj : j < n1) (hf : fr ≤ j) (e : eq i j = true) : lgT eq n0 n1 (i + 1) (j + 1) + 1 ≤ lgT eq n0 n1 i fr := by
  have h1 := lgT_s (eq := eq) hi hj
  rw [if_pos e] at h1
  have h2 := lgT_j (eq := eq) (n0 := n0) (n1 := n1) (i := i) hf
  omega
/-- which letter the letter i of the first text takes -/
def cmT (eq : Nat → Nat → Bool) (n0 n1 i : Nat) : Option Nat := fnd (cmP eq n0 n1 i (cmn eq n0 n1 i).1) (n1 - (cmn eq n0 n1 i).1) (cmn eq n0 n1 i).1
theorem cmn_n {eq : Nat → Nat → Bool} {n0 n1 i : Nat} (h : cmT eq n0 n1 i = none) : cmn eq n0 n1 (i + 1) = cmn eq n0 n1 i := by
  show cmS eq n0 n1 i (cmn eq n0 n1 i) = _
  unfold cmS
  rw [show fnd (cmP eq n0 n1 i (cmn eq n0 n1 i).1) (n1 - (cmn eq n0 n1 i).1) (cmn eq n0 n1 i).1 = none from h]
theorem cmn_t {eq : Nat → Nat → Bool} {n0 n1 i j : Nat} (h : cmT eq n0 n1 i = some j) : cmn eq n0 n1 (i + 1) = (j + 1, pup (cmn eq n0 n1 i).2 i j 1) := by
  show cmS eq n0 n1 i (cmn eq n0 n1 i) = _
  unfold cmS
  rw [show fnd (cmP eq n0 n1 i (cmn eq n0 n1 i).1) (n1 - (cmn eq n0 n1 i).1) (cmn eq n0 n1 i).1 = some j from h]
/-- how many have been taken ahead of i; their codes -/
def cmQ (eq : Nat → Nat → Bool) (n0 n1 : Nat) : Nat → Nat
  | 0 => 0
  | i + 1 => cmQ eq n0 n1 i + (if (cmT eq n0 n1 i).isSome = true then 1 else 0)
def cmO (eq : Nat → Nat → Bool) (n0 n1 : Nat) : Nat → Nat → Int
  | 0 => fun _ => 0
  | i + 1 => match cmT eq n0 n1 i with
    | none => cmO eq n0 n1 i
    | some j => un (cmO eq n0 n1 i) (cmQ eq n0 n1 i) (100 * (i : Int) + (j : Int))
theorem cmQ_n {eq : Nat → Nat → Bool} {n0 n1 i : Nat} (h : cmT eq n0 n1 i = none) : cmQ eq n0 n1 (i + 1) = cmQ eq n0 n1 i := by
  show cmQ eq n0 n1 i + _ = _
  rw [h]; rfl
theorem cmQ_t {eq : Nat → Nat → Bool} {n0 n1 i j : Nat} (h : cmT eq n0 n1 i = some j) : cmQ eq n0 n1 (i + 1) = cmQ eq n0 n1 i + 1 := by
  show cmQ eq n0 n1 i + _ = _
  rw [h]; rfl
theorem cmO_n {eq : Nat → Nat → Bool} {n0 n1 i : Nat} (h : cmT eq n0 n1 i = none) : cmO eq n0 n1 (i + 1) = cmO eq n0 n1 i := by
  show (match cmT eq n0 n1 i with
    | none => cmO eq n0 n1 i
    | some j => un (cmO eq n0 n1 i) (cmQ eq n0 n1 i) (100 * (i : Int) + (j : Int))) = _
  rw [h]
theorem cmO_t {eq : Nat → Nat → Bool} {n0 n1 i j : Nat} (h : cmT eq n0 n1 i = some j) : cmO eq n0 n1 (i + 1) = un (cmO eq n0 n1 i) (cmQ eq n0 n1 i) (100 * (i : Int) + (j : Int)) := by
  show (match cmT eq n0 n1 i with
    | none => cmO eq n0 n1 i
    | some j => un (cmO eq n0 n1 i) (cmQ eq n0 n1 i) (100 * (i : Int) + (j : Int))) = _
  rw [h]
theorem cmQ_le {eq : Nat → Nat → Bool} {n0 n1 : Nat} : ∀ i d, cmQ eq n0 n1 i ≤ cmQ eq n0 n1 (i + d) := by
  intro i d
  induction d with
  | zero => exact Nat.le_refl _
  | succ d ih =>
    refine Nat.le_trans ih ?_
    show _ ≤ cmQ eq n0 n1 (i + d) + _
    omega
theorem cmQ_mono {eq : Nat → Nat → Bool} {n0 n1 i j : Nat} (h : i ≤ j) : cmQ eq n0 n1 i ≤ cmQ eq n0 n1 j := by
  have := cmQ_le (eq := eq) (n0 := n0) (n1 := n1) i (j - i)
  rw [show i + (j - i) = j by omega] at this
  exact this
theorem cmO_keep {eq : Nat → Nat → Bool} {n0 n1 i k : Nat} (hk : k < cmQ eq n0 n1 i) : ∀ d, cmO eq n0 n1 (i + d) k = cmO eq n0 n1 i k := by
  intro d
  induction d with
  | zero => rfl
  | succ d ih =>
    rw [← ih]
    show cmO eq n0 n1 (i + d + 1) k = _
    cases e : cmT eq n0 n1 (i + d) with
    | none => rw [cmO_n e]
    | some j =>
      rw [cmO_t e, un_n]
      have := cmQ_le (eq := eq) (n0 := n0) (n1 := n1) i d
      omega
theorem cmO_fin {eq : Nat → Nat → Bool} {n0 n1 i k : Nat} (hi : i ≤ n0) (hk : k < cmQ eq n0 n1 i) : cmO eq n0 n1 n0 k = cmO eq n0 n1 i k := by
  have := cmO_keep (eq := eq) (n0 := n0) (n1 := n1) hk (n0 - i)
  rw [show i + (n0 - i) = n0 by omega] at this
  exact this
theorem cm_tight {eq : Nat → Nat → Bool} {n0 n1 : Nat} : ∀ i, i ≤ n0 → (cmn eq n0 n1 i).1 ≤ n1 ∧ cmQ eq n0 n1 i + lgT eq n0 n1 i (cmn eq n0 n1 i).1 = lgT eq n0 n1 0 0 := by
  intro i
  induction i with
  | zero => intro _; exact ⟨Nat.zero_le _, Nat.zero_add _⟩
  | succ i ih =>
    intro hi
    obtain ⟨h1, h2⟩ := ih (by omega)
    cases e : cmT eq n0 n1 i with
    | none =>
      rw [cmn_n e, cmQ_n e]
      refine ⟨h1, ?_⟩
      have hx := fnd_none.mp e
      have := cm_stay (eq := eq) (n1 := n1) (show i < n0 by omega) (n1 - (cmn eq n0 n1 i).1) (cmn eq n0 n1 i).1 rfl (fun x a b => hx x a (by omega))
      omega
    | some j =>
      rw [cmn_t e, cmQ_t e]
      have f := fnd_some e
      have g := f.2.2.1
      unfold cmP at g
      simp only [Bool.and_eq_true, decide_eq_true_eq] at g
      exact ⟨by show j + 1 ≤ n1; omega, by show _ + lgT eq n0 n1 (i + 1) (j + 1) = _; omega⟩
theorem cm_full {eq : Nat → Nat → Bool} {n0 n1 : Nat} : cmQ eq n0 n1 n0 = lgT eq n0 n1 0 0 := by
  have h := (cm_tight (eq := eq) (n0 := n0) (n1 := n1) n0 (Nat.le_refl _)).2
  rw [lgT_z (.inl (Nat.le_refl _))] at h
  omega
/-- what is taken is the first that is the same -/
theorem cm_first {eq : Nat → Nat → Bool} {n0 n1 i j : Nat} (hi : i < n0) (h : cmT eq n0 n1 i = some j) : fnd (eq i) (n1 - (cmn eq n0 n1 i).1) (cmn eq n0 n1 i).1 = some j := by
  have f := fnd_some h
  have g := f.2.2.1
  unfold cmP at g
  simp only [Bool.and_eq_true, decide_eq_true_eq] at g
  refine fnd_is f.1 f.2.1 g.1 (fun y h1 h2 => ?_)
  cases e : eq i y with
  | false => rfl
  | true =>
    have k := f.2.2.2 y h1 h2
    unfold cmP at k
    rw [e] at k
    simp only [Bool.true_and, decide_eq_false_iff_not] at k
    have t1 := lgT_take (eq := eq) hi (show y < n1 by omega) h1 e
    have t2 := lgT_j (eq := eq) (n0 := n0) (n1 := n1) (i := i + 1) (show y + 1 ≤ j + 1 by omega)
    omega
theorem cm_not {eq : Nat → Nat → Bool} {n0 n1 i j : Nat} (hi : i < n0) (h : cmT eq n0 n1 i = none) (h1 : (cmn eq n0 n1 i).1 ≤ j) (hj : j < n1) (e : eq i j = true) : lgT eq n0 n1 (i + 1) (j + 1) + 1 < lgT eq n0 n1 i (cmn eq n0 n1 i).1 := by
  have k := fnd_none.mp h j h1 (by omega)
  unfold cmP at k
  rw [e] at k
  simp only [Bool.true_and, decide_eq_false_iff_not] at k
  have t1 := lgT_take (eq := eq) hi hj h1 e
  omega
/-- a set of letters of the first text, each with the first equal one: how many, from where on, their codes -/
abbrev GT : Type := Nat × Nat × (Nat → Int)
def gs1 (eq : Nat → Nat → Bool) (n1 i : Nat) (b : Bool) (z : GT) : Option GT := if b = true then (match fnd (eq i) (n1 - z.2.1) z.2.1 with
    | none => none
    | some j => some (z.1 + 1, j + 1, un z.2.2 z.1 (100 * (i : Int) + (j : Int)))) else some z
def gw (eq : Nat → Nat → Bool) (n1 : Nat) (p : Nat → Bool) : Nat → Option GT
  | 0 => some (0, 0, fun _ => 0)
  | i + 1 => (gw eq n1 p i).bind (gs1 eq n1 i (p i))
theorem gw_s {eq : Nat → Nat → Bool} {n1 i : Nat} {p : Nat → Bool} {z : GT} (h : gw eq n1 p (i + 1) = some z) : ∃ y, gw eq n1 p i = some y ∧ (p i = false ∧ z = y ∨ ∃ j, p i = true ∧ fnd (eq i) (n1 - y.2.1) y.2.1 = some j ∧ z = (y.1 + 1, j + 1, un y.2.2 y.1 (100 * (i : Int) + (j : Int)))) := by
  have h : (gw eq n1 p i).bind (gs1 eq n1 i (p i)) = some z := h
  cases e : gw eq n1 p i with
  | none => rw [e] at h; cases h
  | some y =>
    rw [e] at h
    have h : gs1 eq n1 i (p i) y = some z := h
    refine ⟨y, rfl, ?_⟩
    unfold gs1 at h
    cases ep : p i with
    | false => rw [ep] at h; simp at h; exact .inl ⟨rfl, h.symm⟩
    | true =>
      rw [ep] at h
      simp only [if_true] at h
      cases ef : fnd (eq i) (n1 - y.2.1) y.2.1 with
      | none => rw [ef] at h; cases h
      | some j => rw [ef] at h; cases h; exact .inr ⟨j, rfl, rfl, rfl⟩
theorem gw_ext {eq : Nat → Nat → Bool} {n1 : Nat} {p q : Nat → Bool} : ∀ n, (∀ i, i < n → p i = q i) → gw eq n1 p n = gw eq n1 q n := by
  intro n
  induction n with
  | zero => intro _; rfl
  | succ n ih =>
    intro h
    show (gw eq n1 p n).bind (gs1 eq n1 n (p n)) = (gw eq n1 q n).bind (gs1 eq n1 n (q n))
    rw [ih (fun i hi => h i (by omega)), h n (by omega)]
theorem gw_le {eq : Nat → Nat → Bool} {n0 n1 : Nat} {p : Nat → Bool} : ∀ i z, i ≤ n0 → gw eq n1 p i = some z → z.1 ≤ i ∧ z.2.1 ≤ n1 ∧ z.1 + lgT eq n0 n1 i z.2.1 ≤ lgT eq n0 n1 0 0 := by
  intro i
  induction i with
  | zero => intro z _ h; cases h; exact ⟨Nat.le_refl _, Nat.zero_le _, by show 0 + lgT eq n0 n1 0 0 ≤ _; omega⟩
  | succ i ih =>
    intro z hi h
    obtain ⟨y, h1, h2⟩ := gw_s h
    obtain ⟨a1, a2, a3⟩ := ih y (by omega) h1
    rcases h2 with ⟨-, rfl⟩ | ⟨j, -, hj, rfl⟩
    · have := lgT_le (eq := eq) (n1 := n1) (j := z.2.1) (show i < n0 by omega)
      exact ⟨by omega, a2, by omega⟩
    · have f := fnd_some hj
      have := lgT_take (eq := eq) (show i < n0 by omega) (show j < n1 by omega) f.1 f.2.2.1
      exact ⟨by show y.1 + 1 ≤ i + 1; omega, by show j + 1 ≤ n1; omega, by show y.1 + 1 + lgT eq n0 n1 (i + 1) (j + 1) ≤ _; omega⟩
theorem gw_stop {eq : Nat → Nat → Bool} {n1 : Nat} {p : Nat → Bool} {i : Nat} (h : gw eq n1 p i = none) : ∀ d, gw eq n1 p (i + d) = none := by
  intro d
  induction d with
  | zero => exact h
  | succ d ih =>
    show (gw eq n1 p (i + d)).bind _ = none
    rw [ih]; rfl
/-- one sequence isn't behind another -/
def LEs (L : Nat) (f g : Nat → Int) : Prop := (∀ k, k < L → f k = g k) ∨ ∃ k, k < L ∧ (∀ j, j < k → f j = g j) ∧ f k < g k
theorem gw_cmp {eq : Nat → Nat → Bool} {n0 n1 : Nat} {p : Nat → Bool} (hn : n1 ≤ 8) : ∀ i z, i ≤ n0 → gw eq n1 p i = some z →
    (z.1 = cmQ eq n0 n1 i ∧ z.2.1 = (cmn eq n0 n1 i).1 ∧ ∀ k, k < z.1 → z.2.2 k = cmO eq n0 n1 i k) ∨
    (∃ k, k < z.1 ∧ (∀ j, j < k → cmO eq n0 n1 n0 j = z.2.2 j) ∧ cmO eq n0 n1 n0 k < z.2.2 k) ∨
    ((∀ j, j < z.1 → cmO eq n0 n1 n0 j = z.2.2 j) ∧ z.1 < lgT eq n0 n1 0 0 ∧ cmO eq n0 n1 n0 z.1 < 100 * (i : Int)) ∨
    z.1 + lgT eq n0 n1 i z.2.1 < lgT eq n0 n1 0 0 := by
  intro i
  induction i with
  | zero => intro z _ h; cases h; exact .inl ⟨rfl, rfl, fun k hk => absurd hk (Nat.not_lt_zero _)⟩
  | succ i ih =>
    intro z hi h
    obtain ⟨y, h1, h2⟩ := gw_s h
    have hi0 : i < n0 := by omega
    have tl := lgT_le (eq := eq) (n1 := n1) (j := y.2.1) hi0
    rcases ih y (by omega) h1 with ⟨e1, e2, e3⟩ | ⟨k, k1, k2, k3⟩ | ⟨w1, w2, w3⟩ | x
    · have ti := (cm_tight (eq := eq) (n0 := n0) (n1 := n1) i (by omega)).2
      rcases h2 with ⟨-, rfl⟩ | ⟨j, -, hj, rfl⟩
      · cases e : cmT eq n0 n1 i with
        | none => exact .inl ⟨by rw [cmQ_n e]; exact e1, by rw [cmn_n e]; exact e2, fun k hk => by rw [cmO_n e]; exact e3 k hk⟩
        | some j =>
          have q1 := cmQ_t e
          have q2 := cm_full (eq := eq) (n0 := n0) (n1 := n1)
          have q3 := cmQ_mono (eq := eq) (n0 := n0) (n1 := n1) (show i + 1 ≤ n0 by omega)
          have f := fnd_some e
          refine .inr (.inr (.inl ⟨fun k hk => ?_, by omega, ?_⟩))
          · rw [e3 k hk]; exact cmO_fin (by omega) (by omega)
          · rw [e1, cmO_fin (i := i + 1) (by omega) (by omega), cmO_t e, un_s]
            omega
      · have f := fnd_some hj
        cases e : cmT eq n0 n1 i with
        | none =>
          refine .inr (.inr (.inr ?_))
          have := cm_not hi0 e (j := j) (by rw [← e2]; exact f.1) (by omega) f.2.2.1
          show y.1 + 1 + lgT eq n0 n1 (i + 1) (j + 1) < _
          omega
        | some j' =>
          have g := cm_first hi0 e
          rw [← e2, hj] at g
          cases g
          refine .inl ⟨by rw [cmQ_t e]; show y.1 + 1 = _; omega, by rw [cmn_t e], fun k hk => ?_⟩
          have hk : k < y.1 + 1 := hk
          rw [cmO_t e]
          show un y.2.2 y.1 _ k = un _ _ _ k
          rw [← e1]
          by_cases ek : k = y.1
          · rw [ek, un_s, un_s]
          · rw [un_n ek, un_n ek]; exact e3 k (by omega)
    · refine .inr (.inl ?_)
      rcases h2 with ⟨-, rfl⟩ | ⟨j, -, hj, rfl⟩
      · exact ⟨k, k1, k2, k3⟩
      · refine ⟨k, by show k < y.1 + 1; omega, fun m hm => ?_, ?_⟩
        · show _ = un y.2.2 y.1 _ m
          rw [un_n (by omega)]; exact k2 m hm
        · show _ < un y.2.2 y.1 _ k
          rw [un_n (by omega)]; exact k3
    · rcases h2 with ⟨-, rfl⟩ | ⟨j, -, hj, rfl⟩
      · exact .inr (.inr (.inl ⟨w1, w2, by omega⟩))
      · refine .inr (.inl ⟨y.1, by show y.1 < y.1 + 1; omega, fun m hm => ?_, ?_⟩)
        · show _ = un y.2.2 y.1 _ m
          rw [un_n (by omega)]; exact w1 m hm
        · show _ < un y.2.2 y.1 _ y.1
          rw [un_s]; omega
    · refine .inr (.inr (.inr ?_))
      rcases h2 with ⟨-, rfl⟩ | ⟨j, -, hj, rfl⟩
      · omega
      · have f := fnd_some hj
        have := lgT_take (eq := eq) hi0 (show j < n1 by omega) f.1 f.2.2.1
        show y.1 + 1 + lgT eq n0 n1 (i + 1) (j + 1) < _
        omega
theorem gw_best {eq : Nat → Nat → Bool} {n0 n1 : Nat} {p : Nat → Bool} {z : GT} (hn : n1 ≤ 8) (h : gw eq n1 p n0 = some z) : z.1 ≤ lgT eq n0 n1 0 0 ∧ (z.1 = lgT eq n0 n1 0 0 → LEs (lgT eq n0 n1 0 0) (cmO eq n0 n1 n0) z.2.2) := by
  have h1 := gw_le (n0 := n0) n0 z (Nat.le_refl _) h
  refine ⟨by omega, fun he => ?_⟩
  rcases gw_cmp hn n0 z (Nat.le_refl _) h with ⟨e1, e2, e3⟩ | ⟨k, k1, k2, k3⟩ | ⟨w1, w2, w3⟩ | x
  · exact .inl (fun k hk => (e3 k (by omega)).symm)
  · exact .inr ⟨k, by omega, k2, k3⟩
  · omega
  · omega
/-- the set that is sought -/
theorem gw_star {eq : Nat → Nat → Bool} {n0 n1 : Nat} : ∀ i, i ≤ n0 → ∃ z, gw eq n1 (fun i => (cmT eq n0 n1 i).isSome) i = some z ∧ z.1 = cmQ eq n0 n1 i ∧ z.2.1 = (cmn eq n0 n1 i).1 ∧ ∀ k, k < z.1 → z.2.2 k = cmO eq n0 n1 i k := by
  intro i
  induction i with
  | zero => intro _; exact ⟨_, rfl, rfl, rfl, fun k hk => absurd hk (Nat.not_lt_zero _)⟩
  | succ i ih =>
    intro hi
    obtain ⟨y, h1, e1, e2, e3⟩ := ih (by omega)
    have hs : gw eq n1 (fun i => (cmT eq n0 n1 i).isSome) (i + 1) = gs1 eq n1 i ((cmT eq n0 n1 i).isSome) y := by
      show (gw eq n1 (fun i => (cmT eq n0 n1 i).isSome) i).bind (gs1 eq n1 i ((cmT eq n0 n1 i).isSome)) = _
      rw [h1]; rfl
    cases e : cmT eq n0 n1 i with
    | none =>
      refine ⟨y, ?_, by rw [cmQ_n e]; exact e1, by rw [cmn_n e]; exact e2, fun k hk => by rw [cmO_n e]; exact e3 k hk⟩
      rw [hs, e]; rfl
    | some j =>
      have g := cm_first (show i < n0 by omega) e
      rw [← e2] at g
      refine ⟨(y.1 + 1, j + 1, un y.2.2 y.1 (100 * (i : Int) + (j : Int))), ?_, by rw [cmQ_t e]; show y.1 + 1 = _; omega, by rw [cmn_t e], fun k hk => ?_⟩
      · rw [hs, e]
        unfold gs1
        rw [if_pos (show (some j).isSome = true from rfl), g]
      · have hk : k < y.1 + 1 := hk
        rw [cmO_t e]
        show un y.2.2 y.1 _ k = un _ _ _ k
        rw [← e1]
        by_cases ek : k = y.1
        · rw [ek, un_s, un_s]
        · rw [un_n ek, un_n ek]; exact e3 k (by omega)
/-- sets as numbers -/
theorem set_is : ∀ (n : Nat) (p : Nat → Bool), ∃ s, s < 2 ^ n ∧ ∀ i, i < n → (s / 2 ^ i % 2 = 1 ↔ p i = true) := by
  intro n
  induction n with
  | zero => intro p; exact ⟨0, by decide, fun i hi => absurd hi (Nat.not_lt_zero _)⟩
  | succ n ih =>
    intro p
    obtain ⟨s, h1, h2⟩ := ih (fun i => p (i + 1))
    have hp : 2 ^ (n + 1) = 2 * 2 ^ n := by rw [Nat.pow_succ]; omega
    refine ⟨2 * s + (if p 0 = true then 1 else 0), by rw [hp]; split <;> omega, fun i hi => ?_⟩
    cases i with
    | zero =>
      rw [Nat.pow_zero, Nat.div_one]
      split
      next h => exact ⟨fun _ => h, fun _ => by omega⟩
      next h => exact ⟨fun h3 => by omega, fun h3 => absurd h3 h⟩
    | succ i =>
      rw [show 2 ^ (i + 1) = 2 * 2 ^ i by rw [Nat.pow_succ]; omega, ← Nat.div_div_eq_div_mul]
      rw [show (2 * s + (if p 0 = true then 1 else 0)) / 2 = s by split <;> omega]
      exact h2 i (by omega)
/-- the k-th that is taken -/
theorem cm_nth {eq : Nat → Nat → Bool} {n0 n1 k : Nat} : ∀ n, n ≤ n0 → k < cmQ eq n0 n1 n → ∃ i j, i < n ∧ j < n1 ∧ cmT eq n0 n1 i = some j ∧ cmQ eq n0 n1 i = k ∧ cmO eq n0 n1 n0 k = 100 * (i : Int) + (j : Int) := by
  intro n
  induction n with
  | zero => intro _ h; exact absurd h (Nat.not_lt_zero _)
  | succ n ih =>
    intro hn hk
    by_cases hk2 : k < cmQ eq n0 n1 n
    · obtain ⟨i, j, h1, h2⟩ := ih (by omega) hk2
      exact ⟨i, j, by omega, h2⟩
    · cases e : cmT eq n0 n1 n with
      | none => rw [cmQ_n e] at hk; exact absurd hk hk2
      | some j =>
        have q := cmQ_t e
        have ek : cmQ eq n0 n1 n = k := by omega
        refine ⟨n, j, by omega, ?_, e, ek, ?_⟩
        · have f := fnd_some e; omega
        · rw [cmO_fin (i := n + 1) (by omega) (by omega), cmO_t e, ek, un_s]
/-- pairs, when k have been written down -/
def cmW1 (eq : Nat → Nat → Bool) (n0 n1 k i : Nat) : Int := match cmT eq n0 n1 i with
  | none => -1
  | some j => if cmQ eq n0 n1 i < k then (j : Int) else -1
def cmW2 (eq : Nat → Nat → Bool) (n0 n1 k i : Nat) : Int := match cmT eq n0 n1 i with
  | none => 4
  | some _ => if cmQ eq n0 n1 i < k then 1 else 4
theorem cmW_0 {eq : Nat → Nat → Bool} {n0 n1 i : Nat} : cmW1 eq n0 n1 0 i = -1 ∧ cmW2 eq n0 n1 0 i = 4 := by
  unfold cmW1 cmW2
  cases cmT eq n0 n1 i with
  | none => exact ⟨rfl, rfl⟩
  | some j => exact ⟨if_neg (Nat.not_lt_zero _), if_neg (Nat.not_lt_zero _)⟩
theorem cmW_s {eq : Nat → Nat → Bool} {n0 n1 k a j : Nat} (e : cmT eq n0 n1 a = some j) (hk : cmQ eq n0 n1 a = k) (i : Nat) : cmW1 eq n0 n1 (k + 1) i = (if i = a then (j : Int) else cmW1 eq n0 n1 k i) ∧ cmW2 eq n0 n1 (k + 1) i = (if i = a then 1 else cmW2 eq n0 n1 k i) := by
  by_cases h : i = a
  · subst h
    rw [if_pos rfl, if_pos rfl]
    unfold cmW1 cmW2
    rw [e]
    simp only
    exact ⟨if_pos (by omega), if_pos (by omega)⟩
  · rw [if_neg h, if_neg h]
    unfold cmW1 cmW2
    cases e2 : cmT eq n0 n1 i with
    | none => exact ⟨rfl, rfl⟩
    | some j2 =>
      simp only
      have : (cmQ eq n0 n1 i < k + 1) ↔ cmQ eq n0 n1 i < k := by
        constructor
        · intro h3
          by_cases h4 : cmQ eq n0 n1 i = k
          · exfalso
            have q1 := cmQ_t e2
            have q2 := cmQ_t e
            by_cases h5 : i < a
            · have := cmQ_mono (eq := eq) (n0 := n0) (n1 := n1) (show i + 1 ≤ a by omega); omega
            · have := cmQ_mono (eq := eq) (n0 := n0) (n1 := n1) (show a + 1 ≤ i by omega); omega
          · omega
        · omega
      simp only [this]
      exact ⟨trivial, trivial⟩
theorem cmW_pt {eq : Nat → Nat → Bool} {n0 n1 : Nat} : ∀ m, m ≤ n0 → ∀ i, i < m → (cmn eq n0 n1 m).2.1 i = cmW1 eq n0 n1 (cmQ eq n0 n1 n0) i ∧ (cmn eq n0 n1 m).2.2.2.1 i = cmW2 eq n0 n1 (cmQ eq n0 n1 n0) i := by
  intro m
  induction m with
  | zero => intro _ i hi; exact absurd hi (Nat.not_lt_zero _)
  | succ m ih =>
    intro hm i hi
    have w := (cmn_w (eq := eq) (n0 := n0) (n1 := n1) m (by omega))
    have hfree := w.2.2.1
    cases e : cmT eq n0 n1 m with
    | none =>
      rw [cmn_n e]
      by_cases h : i = m
      · subst h
        have h1 := hfree i (Nat.le_refl _)
        have h2 := (pw_free w.1 (show i < n0 by omega)).mp h1
        unfold cmW1 cmW2
        rw [e]
        exact ⟨h1, h2⟩
      · exact ih (by omega) i (by omega)
    | some j =>
      rw [cmn_t e]
      show un _ m (j : Int) i = _ ∧ un _ m 1 i = _
      by_cases h : i = m
      · subst h
        rw [un_s, un_s]
        have q1 := cmQ_t e
        have q2 := cmQ_mono (eq := eq) (n0 := n0) (n1 := n1) (show i + 1 ≤ n0 by omega)
        unfold cmW1 cmW2
        rw [e]
        simp only
        exact ⟨(if_pos (by omega)).symm, (if_pos (by omega)).symm⟩
      · rw [un_n h, un_n h]
        exact ih (by omega) i (by omega)
