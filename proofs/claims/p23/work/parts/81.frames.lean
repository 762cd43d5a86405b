/-! SECOND LAW, 12: frame by frame -/
section FRM
variable {c0 c1 st : Nat → Int} {F : Nat}
theorem isFF_go (G : GS st) : ∀ d t, 190 - t = d → t ≤ 190 → (if 0 < cK (kfA c0 c1 st) (Nc c0) 3 then 1 else 0) ≤ t → (∀ u, (if 0 < cK (kfA c0 c1 st) (Nc c0) 3 then 1 else 0) ≤ u → u < t → 0 < cG (glM c0 c1 st) (mfA c0 c1 st u).1 (Nc c0)) → ∃ F, isFF c0 c1 st F := by
  have Gl : ∀ k, k < Nc c0 → glM c0 c1 st k = -1 ∨ 0 ≤ glM c0 c1 st k ∧ glM c0 c1 st k < 80 := fun k hk => by
    rcases glA_ok (c1 := c1) (pw_A (c0 := c0) (st := st)) k hk with h | h
    · exact .inl h.1
    · exact .inr h.1
  have Sl : ∀ k, k < Nc c0 → 0 ≤ s0M c0 k ∧ s0M c0 k < 80 := fun k hk => by
    have := Lc_lt hk
    show 0 ≤ (Lc c0 k : Int) ∧ (Lc c0 k : Int) < 80
    omega
  intro d
  induction d with
  | zero =>
    intro t h1 h2 h3 h4
    exact ⟨t, ⟨h3, mfr_end (w := st 4) G.2.2.2.2.2.1 Gl Sl (by omega), h4⟩, h2⟩
  | succ d ih =>
    intro t h1 h2 h3 h4
    by_cases e : cG (glM c0 c1 st) (mfA c0 c1 st t).1 (Nc c0) = 0
    · exact ⟨t, ⟨h3, e, h4⟩, h2⟩
    · refine ih (t + 1) (by omega) (by omega) (by omega) (fun u hu1 hu2 => ?_)
      by_cases eu : u = t
      · subst eu; omega
      · exact h4 u hu1 (by omega)
theorem isFF_ex (G : GS st) : ∃ F, isFF c0 c1 st F := isFF_go G _ (if 0 < cK (kfA c0 c1 st) (Nc c0) 3 then 1 else 0) rfl (by split <;> omega) (Nat.le_refl _) (fun u h1 h2 => by omega)
theorem mvd_lo {f : Int} (h : f ≤ sti c0 c1 st) : mvd c0 c1 st F f = 0 := by
  unfold mvd
  split <;> split <;> omega
theorem mvd_at {t : Nat} (h : t ≤ F) : mvd c0 c1 st F (sti c0 c1 st + (t : Int)) = t := by
  unfold mvd
  split <;> split <;> omega
theorem mvd_hi {f : Int} (h : sti c0 c1 st + (F : Int) ≤ f) : mvd c0 c1 st F f = F := by
  unfold mvd
  split <;> split <;> omega
theorem hin_no {d : Int} (h : d < 1 ∨ (F : Int) < d) : hin c0 c1 st F d = 0 := by
  unfold hin; rw [if_neg (by omega)]
theorem gl_4 {k : Nat} (hk : k < Nc c0) : glM c0 c1 st k = -1 ↔ kfA c0 c1 st k = 4 := by
  rcases pf_cases (c1 := c1) (st := st) hk with ⟨h1, h2⟩ | ⟨j, j1, j2, j3, j4, j5, j6⟩
  · have : glM c0 c1 st k = -1 := if_pos h1
    exact ⟨fun _ => h2, fun _ => this⟩
  · rcases gl_of (c1 := c1) (pw_A (c0 := c0) (st := st)) hk with ⟨h1, -⟩ | ⟨j', -, -, h3⟩
    · have h1 : pfA c0 c1 st k = -1 := h1
      omega
    · have h3 : glM c0 c1 st k = (Lc c1 j' : Int) := h3
      constructor <;> intro h <;> omega
theorem gon_sti {k : Nat} : gonA c0 c1 st k ≤ sti c0 c1 st := by unfold gonA sti; omega
theorem gon_lo {k : Nat} (hk : k < Nc c0) (h4 : kfA c0 c1 st k = 4) : st 6 + 1 ≤ gonA c0 c1 st k := by
  have b := cK_mono (f := kfA c0 c1 st) (v := 4) (show k + 1 ≤ Nc c0 by omega)
  have c := cK_s (f := kfA c0 c1 st) (n := k) (v := 4)
  rw [if_pos h4] at c
  unfold gonA; omega
theorem gon_le {i k : Nat} (hi : kfA c0 c1 st i = 4) (hk : kfA c0 c1 st k = 4) : gonA c0 c1 st k ≤ gonA c0 c1 st i ↔ i ≤ k := by
  have ci := cK_s (f := kfA c0 c1 st) (n := i) (v := 4)
  have ck := cK_s (f := kfA c0 c1 st) (n := k) (v := 4)
  rw [if_pos hi] at ci
  rw [if_pos hk] at ck
  unfold gonA
  constructor
  · intro h
    by_cases e : i ≤ k
    · exact e
    · have := cK_mono (f := kfA c0 c1 st) (v := 4) (show k + 1 ≤ i by omega); omega
  · intro h
    have := cK_mono (f := kfA c0 c1 st) (v := 4) h; omega
theorem pl_still {k : Nat} {f : Int} (hk : k < Nc c0) (h : f ≤ st 6) : plA c0 c1 st F k f = s0M c0 k := by
  unfold plA
  have hs : f ≤ sti c0 c1 st := by unfold sti; omega
  rw [mvd_lo hs, if_neg (fun h2 => by have := gon_lo hk h2.1; omega)]
  rfl
theorem pl_van {i k : Nat} (hi : kfA c0 c1 st i = 4) : plA c0 c1 st F k (gonA c0 c1 st i) = if kfA c0 c1 st k = 4 ∧ i ≤ k then -1 else s0M c0 k := by
  unfold plA
  rw [mvd_lo gon_sti]
  by_cases e : kfA c0 c1 st k = 4
  · by_cases e2 : i ≤ k
    · rw [if_pos ⟨e, (gon_le hi e).mpr e2⟩, if_pos ⟨e, e2⟩]
    · rw [if_neg (fun h => e2 ((gon_le hi e).mp h.2)), if_neg (fun h => e2 h.2)]; rfl
  · rw [if_neg (fun h => e h.1), if_neg (fun h => e h.1)]; rfl
theorem pl_mov {k t : Nat} (hk : k < Nc c0) (ht : t ≤ F) : plA c0 c1 st F k (sti c0 c1 st + (t : Int)) = poS (glM c0 c1 st) (mfA c0 c1 st t).1 k := by
  unfold plA poS
  rw [mvd_at ht]
  have g := gon_sti (c0 := c0) (c1 := c1) (st := st) (k := k)
  by_cases e : kfA c0 c1 st k = 4
  · rw [if_pos ⟨e, by omega⟩, if_pos ((gl_4 hk).mpr e)]
  · rw [if_neg (fun h => e h.1), if_neg (fun h => e ((gl_4 hk).mp h))]
theorem pl_end {k : Nat} {f : Int} (hk : k < Nc c0) (hf : sti c0 c1 st + (F : Int) ≤ f) : plA c0 c1 st F k f = poS (glM c0 c1 st) (mfA c0 c1 st F).1 k := by
  unfold plA poS
  rw [mvd_hi hf]
  have g := gon_sti (c0 := c0) (c1 := c1) (st := st) (k := k)
  by_cases e : kfA c0 c1 st k = 4
  · rw [if_pos ⟨e, by omega⟩, if_pos ((gl_4 hk).mpr e)]
  · rw [if_neg (fun h => e h.1), if_neg (fun h => e ((gl_4 hk).mp h))]
/-- a piece in a frame of moving -/
theorem msw_at {n : Nat} {gl : Nat → Int} {w p : Int} {t : Nat} {z : MT} {k : Nat} : ∀ d, (msw n gl w p t z (k + 1 + d)).1 k = (mst n gl w p t (msw n gl w p t z k) k).1 k ∧ (msw n gl w p t z (k + 1 + d)).2.2.2.1 k = (mst n gl w p t (msw n gl w p t z k) k).2.2.2.1 k := by
  intro d
  induction d with
  | zero => exact ⟨rfl, rfl⟩
  | succ d ih =>
    have m := mst_o (n := n) (gl := gl) (w := w) (p := p) (t := t) (z := msw n gl w p t z (k + 1 + d)) (k := k + 1 + d) (j := k) (by omega)
    exact ⟨m.1.trans ih.1, m.2.2.2.trans ih.2⟩
theorem mf_step {t k : Nat} (hk : k < Nc c0) (hg : glM c0 c1 st k ≠ -1) : ((mfA c0 c1 st t).1 k = glM c0 c1 st k → (mfA c0 c1 st (t + 1)).1 k = glM c0 c1 st k ∧ (mfA c0 c1 st (t + 1)).2.2.2.1 k = (mfA c0 c1 st t).2.2.2.1 k) ∧ ((mfA c0 c1 st t).1 k ≠ glM c0 c1 st k → (mfA c0 c1 st (t + 1)).1 k = glM c0 c1 st k → (mfA c0 c1 st (t + 1)).2.2.2.1 k = ((t + 1 : Nat) : Int)) := by
  have a := msw_at (n := Nc c0) (gl := glM c0 c1 st) (w := st 4) (p := st 5) (t := t + 1) (z := mrs (mfA c0 c1 st t)) (k := k) (Nc c0 - (k + 1))
  rw [show k + 1 + (Nc c0 - (k + 1)) = Nc c0 by omega] at a
  have o := msw_o (n := Nc c0) (gl := glM c0 c1 st) (w := st 4) (p := st 5) (t := t + 1) (z := mrs (mfA c0 c1 st t)) (j := k) k (Nat.le_refl _)
  have o1 : (msw (Nc c0) (glM c0 c1 st) (st 4) (st 5) (t + 1) (mrs (mfA c0 c1 st t)) k).1 k = (mfA c0 c1 st t).1 k := o.1
  have o4 : (msw (Nc c0) (glM c0 c1 st) (st 4) (st 5) (t + 1) (mrs (mfA c0 c1 st t)) k).2.2.2.1 k = (mfA c0 c1 st t).2.2.2.1 k := o.2.2.2
  have a1 : (mfA c0 c1 st (t + 1)).1 k = _ := a.1
  have a4 : (mfA c0 c1 st (t + 1)).2.2.2.1 k = _ := a.2
  rw [a1, a4]
  generalize msw (Nc c0) (glM c0 c1 st) (st 4) (st 5) (t + 1) (mrs (mfA c0 c1 st t)) k = Z at o1 o4 ⊢
  unfold mst
  refine ⟨fun h => ?_, fun h => ?_⟩
  · rw [if_neg (fun h2 => h2.2 (by rw [o1]; exact h))]
    exact ⟨by rw [o1]; exact h, o4⟩
  · rw [if_pos ⟨hg, by rw [o1]; exact h⟩]
    split
    · intro h2
      have h2 : Z.1 k = glM c0 c1 st k := h2
      rw [o1] at h2; exact absurd h2 h
    · intro h2
      have h2 : un Z.1 k (nxc (st 4) (Z.1 k) (glM c0 c1 st k)) k = glM c0 c1 st k := h2
      rw [un_s] at h2
      show (if nxc (st 4) (Z.1 k) (glM c0 c1 st k) = glM c0 c1 st k then un Z.2.2.2.1 k ((t + 1 : Nat) : Int) else Z.2.2.2.1) k = _
      rw [if_pos h2, un_s]
/-- held in all -/
theorem msw_sum {n : Nat} {gl : Nat → Int} {w p : Int} {t : Nat} {z : MT} : ∀ k, k ≤ n → sN (msw n gl w p t z k).2.2.1 n + (z.2.2.2.2 : Int) = sN z.2.2.1 n + ((msw n gl w p t z k).2.2.2.2 : Int) := by
  intro k
  induction k with
  | zero => intro _; rfl
  | succ k ih =>
    intro hk
    have i := ih (by omega)
    show sN (mst n gl w p t (msw n gl w p t z k) k).2.2.1 n + _ = _ + ((mst n gl w p t (msw n gl w p t z k) k).2.2.2.2 : Int)
    generalize msw n gl w p t z k = Z at i ⊢
    unfold mst
    split
    · split
      · show sN (un Z.2.2.1 k (Z.2.2.1 k + 1)) n + _ = _ + ((Z.2.2.2.2 + 1 : Nat) : Int)
        have u := sN_upd (g := Z.2.2.1) (g' := un Z.2.2.1 k (Z.2.2.1 k + 1)) (n := n) (p := k) (by omega) (fun j _ hj => un_n hj)
        rw [un_s] at u
        omega
      · exact i
    · exact i
theorem mht_sum : ∀ t, sN (mfA c0 c1 st t).2.2.1 (Nc c0) = (mht (Nc c0) (glM c0 c1 st) (s0M c0) (st 4) (st 5) t : Int) := by
  intro t
  induction t with
  | zero =>
    have : ∀ n, sN (fun _ => 0) n = 0 := by
      intro n
      induction n with
      | zero => rfl
      | succ n ih => rw [sN_s, ih]; rfl
    exact this _
  | succ t ih =>
    have s := msw_sum (n := Nc c0) (gl := glM c0 c1 st) (w := st 4) (p := st 5) (t := t + 1) (z := mrs (mfA c0 c1 st t)) (Nc c0) (Nat.le_refl _)
    have e0 : ((mrs (mfA c0 c1 st t)).2.2.2.2 : Int) = 0 := rfl
    have e1 : sN (mrs (mfA c0 c1 st t)).2.2.1 (Nc c0) = sN (mfA c0 c1 st t).2.2.1 (Nc c0) := rfl
    rw [e0, e1, ih] at s
    show sN (msw (Nc c0) (glM c0 c1 st) (st 4) (st 5) (t + 1) (mrs (mfA c0 c1 st t)) (Nc c0)).2.2.1 (Nc c0) = ((mht (Nc c0) (glM c0 c1 st) (s0M c0) (st 4) (st 5) t + (mfA c0 c1 st (t + 1)).2.2.2.2 : Nat) : Int)
    have e2 : (mfA c0 c1 st (t + 1)).2.2.2.2 = (msw (Nc c0) (glM c0 c1 st) (st 4) (st 5) (t + 1) (mrs (mfA c0 c1 st t)) (Nc c0)).2.2.2.2 := rfl
    rw [e2]
    omega
/-- whether it goes on -/
theorem isFF_lt {t : Nat} (h : isFF c0 c1 st F) (ht : t ≤ F) : (0 < cG (glM c0 c1 st) (mfA c0 c1 st t).1 (Nc c0) ∨ t = 0 ∧ 0 < cK (kfA c0 c1 st) (Nc c0) 3) ↔ t < F := by
  obtain ⟨⟨h1, h2, h3⟩, -⟩ := h
  constructor
  · intro hh
    by_cases e : t = F
    · subst e
      rcases hh with hh | ⟨hh, hk⟩
      · have h2' : cG (glM c0 c1 st) (mfA c0 c1 st t).1 (Nc c0) = 0 := h2
        omega
      · rw [if_pos hk] at h1; omega
    · omega
  · intro hlt
    by_cases e : (if 0 < cK (kfA c0 c1 st) (Nc c0) 3 then 1 else 0) ≤ t
    · exact .inl (h3 t e hlt)
    · by_cases hk : 0 < cK (kfA c0 c1 st) (Nc c0) 3
      · rw [if_pos hk] at e; exact .inr ⟨by omega, hk⟩
      · rw [if_neg hk] at e; omega
end FRM
theorem CR.gn {h h' : AH} {zz : Nat → Nat} {x u v : Nat} {D : DT} (C : CR h zz x D) (F : Gn h h' u v) (hu : x + 113 ≤ u) (hn0 : x + 113 ≤ hn h) : CR h' zz x D := C.ag (fun q hq => by
  obtain ⟨c, d⟩ := F.2.2 q (by omega)
  obtain ⟨d1, d2, d3, d4, d5, d6⟩ := d (.inl (by omega))
  exact ⟨c, d1, d2, d4⟩) F.1 (by
  obtain ⟨c, d⟩ := F.2.2 (x + 61) (by omega)
  exact (d (.inl (by omega))).2.2.2.2.1)
