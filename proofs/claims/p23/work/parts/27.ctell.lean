/-! THE PURE LAYER, 11: what is told of the frames (both programs mean this), and the class's Morph telling it -/
def sN (f : Nat → Int) : Nat → Int
  | 0 => 0
  | n + 1 => sN f n + f n
theorem sN_s {f : Nat → Int} {n : Nat} : sN f (n + 1) = sN f n + f n := rfl
theorem sN_bd {f : Nat → Int} {n : Nat} {b : Int} (h : ∀ k, k < n → 0 ≤ f k ∧ f k ≤ b) : 0 ≤ sN f n ∧ sN f n ≤ n * b := by
  induction n with
  | zero => exact ⟨Int.le_refl _, by show (0 : Int) ≤ ((0 : Nat) : Int) * b; rw [show ((0 : Nat) : Int) = 0 from rfl, Int.zero_mul]; exact Int.le_refl _⟩
  | succ n ih =>
    have i := ih (fun k hk => h k (by omega))
    have j := h n (by omega)
    rw [sN_s, show ((n + 1 : Nat) : Int) * b = (n : Int) * b + b by rw [show ((n + 1 : Nat) : Int) = (n : Int) + 1 by omega, Int.add_mul, Int.one_mul]]
    omega
theorem sN_ext {f g : Nat → Int} {n : Nat} (h : ∀ k, k < n → f k = g k) : sN f n = sN g n := by
  induction n with
  | zero => rfl
  | succ n ih => rw [sN_s, sN_s, ih (fun k hk => h k (by omega)), h n (by omega)]
abbrev pfA (c0 c1 st : Nat → Int) : Nat → Int := (prA c0 c1 st).1
abbrev psA (c0 c1 st : Nat → Int) : Nat → Int := (prA c0 c1 st).2.1
abbrev mfA (c0 c1 st : Nat → Int) (t : Nat) : MT := mfr (Nc c0) (glM c0 c1 st) (s0M c0) (st 4) (st 5) t
def stpA (c0 c1 st : Nat → Int) (k : Nat) : Int := if pfA c0 c1 st k = -1 then 0 else ab1 ((Lc c0 k : Int) % 16 - (Lc c1 (pfA c0 c1 st k).toNat : Int) % 16) + ab1 ((Lc c0 k : Int) / 16 - (Lc c1 (pfA c0 c1 st k).toNat : Int) / 16)
def disA (c0 c1 st : Nat → Int) (k : Nat) : Int := if pfA c0 c1 st k = -1 then 0 else dsL c0 c1 st k (pfA c0 c1 st k).toNat
def nFr (c0 c1 st : Nat → Int) (F : Nat) : Int := 1 + sti c0 c1 st + (F : Int) + (cK (ksA c0 c1 st) (Nc c1) 5 : Int) + st 7
def numA (c0 c1 st : Nat → Int) (F : Nat) (what : Int) : Int := if what = 0 then nFr c0 c1 st F else if what = 1 then (Nc c0 : Int) else if what = 2 then (Nc c1 : Int) else if what = 3 then (cK (kfA c0 c1 st) (Nc c0) 1 : Int) else if what = 4 then (cK (kfA c0 c1 st) (Nc c0) 2 : Int) else if what = 5 then (cK (kfA c0 c1 st) (Nc c0) 3 : Int) else if what = 6 then (cK (kfA c0 c1 st) (Nc c0) 4 : Int) else if what = 7 then (cK (ksA c0 c1 st) (Nc c1) 5 : Int) else if what = 8 then (F : Int) else if what = 9 then sN (disA c0 c1 st) (Nc c0) else if what = 10 then sN (stpA c0 c1 st) (Nc c0) else (mht (Nc c0) (glM c0 c1 st) (s0M c0) (st 4) (st 5) F : Int)
def let0 (c0 c1 st : Nat → Int) (i : Nat) (what : Int) : Int := if what = 0 then (Lc c0 i : Int) / 16 else if what = 1 then (Lc c0 i : Int) % 16 else if what = 2 then Ac c0 i else if what = 3 then pfA c0 c1 st i else if what = 4 then kfA c0 c1 st i else disA c0 c1 st i
def let1 (c0 c1 st : Nat → Int) (i : Nat) (what : Int) : Int := if what = 0 then (Lc c1 i : Int) / 16 else if what = 1 then (Lc c1 i : Int) % 16 else if what = 2 then Ac c1 i else if what = 3 then psA c0 c1 st i else if what = 4 then ksA c0 c1 st i else if psA c0 c1 st i = -1 then 0 else dsL c0 c1 st (psA c0 c1 st i).toNat i
def arrA (c0 c1 st : Nat → Int) (F k : Nat) : Int := if (mfA c0 c1 st F).2.2.2.1 k = 0 then 0 else sti c0 c1 st + (mfA c0 c1 st F).2.2.2.1 k
def wayA (c0 c1 st : Nat → Int) (F k : Nat) (what : Int) : Int := if what = 0 then stpA c0 c1 st k else if what = 1 then (mfA c0 c1 st F).2.2.1 k else if kfA c0 c1 st k = 4 then gonA c0 c1 st k else arrA c0 c1 st F k
/-- how far the moving is in frame f -/
def mvd (c0 c1 st : Nat → Int) (F : Nat) (f : Int) : Nat := (if (0 : Int) < (if (F : Int) < f - sti c0 c1 st then (F : Int) else f - sti c0 c1 st) then (if (F : Int) < f - sti c0 c1 st then (F : Int) else f - sti c0 c1 st) else 0).toNat
theorem mvd_le {c0 c1 st : Nat → Int} {F : Nat} {f : Int} : mvd c0 c1 st F f ≤ F := by
  unfold mvd; split
  · split <;> omega
  · omega
def gneA (c0 c1 st : Nat → Int) (k : Nat) (f : Int) : Prop := kfA c0 c1 st k = 4 ∧ gonA c0 c1 st k ≤ f
def plA (c0 c1 st : Nat → Int) (F k : Nat) (f : Int) : Int := if kfA c0 c1 st k = 4 ∧ gonA c0 c1 st k ≤ f then -1 else (mfA c0 c1 st (mvd c0 c1 st F f)).1 k
def pcA (c0 c1 st : Nat → Int) (F k : Nat) (f : Int) : Int := if kfA c0 c1 st k = 3 ∧ 0 < mvd c0 c1 st F f ∧ (mfA c0 c1 st (mvd c0 c1 st F f)).1 k = glM c0 c1 st k then Ac c1 (pfA c0 c1 st k).toNat else Ac c0 k
/-- a finished work -/
def WA (h : AH) (s t0 t1 : Nat) (c0 c1 st : Nat → Int) (F : Nat) : Prop := St h s t0 t1 c0 c1 st ∧ PK h s ∧ MvK h s ∧ MoK h s ∧ WR h s c0 c1 st F ∧ GS st ∧ GC c0 ∧ GC c1
theorem WA.fr {h h' : AH} {a b s t0 t1 F : Nat} {c0 c1 st : Nat → Int} (A : WA h s t0 t1 c0 c1 st F) (Z : Fr h h' a b) (hr : b ≤ s ∨ s + 30 ≤ a ∨ s + 11 ≤ a ∧ b ≤ s + 14) : WA h' s t0 t1 c0 c1 st F := by
  obtain ⟨S, P, M, X, W, r⟩ := A
  exact ⟨S.fr Z (by omega), P.fr Z, M.fr Z, X.fr Z, W.fr Z (by omega), r⟩
theorem sti_bd {c0 c1 st : Nat → Int} (hg : GS st) (hc : Nc c0 ≤ 40) : 0 ≤ sti c0 c1 st ∧ sti c0 c1 st ≤ 60 := by
  have := hg.2.2.2.2.2.2.1
  have := cK_le (f := kfA c0 c1 st) (n := Nc c0) (v := 4)
  unfold sti; omega
theorem gon_bd {c0 c1 st : Nat → Int} (hg : GS st) (hc : Nc c0 ≤ 40) {k : Nat} (hk : k < Nc c0) (h4 : kfA c0 c1 st k = 4) : 1 ≤ gonA c0 c1 st k ∧ gonA c0 c1 st k ≤ 60 := by
  have := hg.2.2.2.2.2.2.1
  have a := cK_le (f := kfA c0 c1 st) (n := Nc c0) (v := 4)
  have b := cK_mono (f := kfA c0 c1 st) (v := 4) (show k + 1 ≤ Nc c0 by omega)
  have c := cK_s (f := kfA c0 c1 st) (n := k) (v := 4)
  rw [if_pos h4] at c
  unfold gonA; omega
/-- pieces stand in cells -/
theorem mfA_bd {c0 c1 st : Nat → Int} (hg : GS st) {t k : Nat} (hk : k < Nc c0) : MK (glM c0 c1 st) (st 5) t (mfA c0 c1 st t) k := by
  refine (mfr_k (w := st 4) hg.2.2.2.2.2.1 (fun k hk => ?_) (fun k hk => ?_) t).1 k hk
  · rcases glA_ok (c1 := c1) (pw_A (st := st)) k hk with h | h
    · exact .inl h.1
    · exact .inr h.1
  · have := Lc_lt hk
    show 0 ≤ (Lc c0 k : Int) ∧ (Lc c0 k : Int) < 80
    omega
theorem pf_cases {c0 c1 st : Nat → Int} {k : Nat} (hk : k < Nc c0) : (pfA c0 c1 st k = -1 ∧ kfA c0 c1 st k = 4) ∨ ∃ j, j < Nc c1 ∧ pfA c0 c1 st k = (j : Int) ∧ psA c0 c1 st j = (k : Int) ∧ kfA c0 c1 st k = ksA c0 c1 st j ∧ 1 ≤ kfA c0 c1 st k ∧ kfA c0 c1 st k ≤ 3 := (pw_A (c0 := c0) (c1 := c1) (st := st)).1 k hk
theorem ps_cases {c0 c1 st : Nat → Int} {k : Nat} (hk : k < Nc c1) : (psA c0 c1 st k = -1 ∧ ksA c0 c1 st k = 5) ∨ ∃ j, j < Nc c0 ∧ psA c0 c1 st k = (j : Int) ∧ pfA c0 c1 st j = (k : Int) := (pw_A (c0 := c0) (c1 := c1) (st := st)).2 k hk
theorem m_vanishes {zz : Nat → Nat} {s t0 t1 F k : Nat} {h : AH} {Q : Int → AH → Prop} {c0 c1 st : Nat → Int} (A : WA h s t0 t1 c0 c1 st F) (hk : k < Nc c0) (q : Q (if kfA c0 c1 st k = 4 then 1 else 0) h) : w_X1_vanishes zz (s + 8) k h Q := by
  obtain ⟨S, P, M, X, W, hg, hc0, hc1⟩ := A
  obtain ⟨p0, p1, p2, p3, p4, p5, p6, q0, q1, q2, q3, q4, q5, q6⟩ := P
  obtain ⟨k0, k1, k2, k3, k4, k5, g0, g1, g2, g3, g4, g5, g6, g7⟩ := X
  have h40 : Nc c0 ≤ 40 := hc0.2
  have e := (W.1 k (by omega)).2.2.1
  unfold w_X1_vanishes
  simp only [okA, okI, jn_def, pair_ex, some_ex, p0, p1, p2, p3, p4, p5, p6, q0, q1, q2, q3, q4, q5, q6, k0, k1, k2, k3, k4, k5, g0, g1, g2, g3, g4, g5, g6, g7, Nat.add_left_cancel_iff, Nat.reduceEqDiff, Nat.add_eq_left, Nat.left_eq_add, if_true, if_false, Nat.reduceAdd, true_and, and_true, Nat.one_ne_zero, Nat.succ_ne_self, e]
  refine ⟨⟨by omega, by omega⟩, fun hn => ⟨.inl trivial, ?_⟩, fun hy => ⟨.inr trivial, ?_⟩⟩
  · rw [if_neg hn] at q; exact q
  · rw [if_pos hy] at q; exact q
theorem m_isGone {zz : Nat → Nat} {s t0 t1 F k : Nat} {f : Int} {h : AH} {Q : Int → AH → Prop} {c0 c1 st : Nat → Int} (A : WA h s t0 t1 c0 c1 st F) (hk : k < Nc c0) (q : Q (if kfA c0 c1 st k = 4 ∧ gonA c0 c1 st k ≤ f then 1 else 0) h) : w_X1_isGone zz (s + 8) k f h Q := by
  have A0 := A
  obtain ⟨S, P, M, X, W, hg, hc0, hc1⟩ := A
  obtain ⟨k0, k1, k2, k3, k4, k5, g0, g1, g2, g3, g4, g5, g6, g7⟩ := X
  have h40 : Nc c0 ≤ 40 := hc0.2
  unfold w_X1_isGone
  refine ⟨by rw [okA_of k0], m_vanishes A0 hk ?_⟩
  by_cases e : kfA c0 c1 st k = 4
  · have e2 := W.2.2.2.2.1 k hk e
    rw [if_pos e]
    simp only [okA, okI, jn_def, pair_ex, some_ex, k0, k1, k2, k3, k4, k5, g0, g1, g2, g3, g4, g5, g6, g7, Nat.add_left_cancel_iff, Nat.reduceEqDiff, Nat.add_eq_left, Nat.left_eq_add, if_true, if_false, Nat.reduceAdd, true_and, and_true, Nat.one_ne_zero, Nat.succ_ne_self, e2]
    refine ⟨fun h => absurd h (by omega), fun _ => ⟨⟨by omega, by omega⟩, fun hlt => ⟨.inl trivial, ?_⟩, fun hge => ⟨.inr trivial, ?_⟩⟩⟩
    · rw [if_neg (fun h => by have := h.2; omega)] at q; exact q
    · rw [if_pos ⟨e, by omega⟩] at q; exact q
  · rw [if_neg e]
    rw [if_neg (fun h => e h.1)] at q
    exact ⟨fun _ => ⟨.inl rfl, q⟩, fun h => absurd rfl h⟩
theorem m_movedBy {zz : Nat → Nat} {s t0 t1 F : Nat} {f : Int} {h : AH} {Q : Int → AH → Prop} {c0 c1 st : Nat → Int} (A : WA h s t0 t1 c0 c1 st F) (hf : -10 ≤ f ∧ f ≤ 1000) (q : Q (mvd c0 c1 st F f : Int) h) : w_X1_movedBy zz (s + 8) f h Q := by
  obtain ⟨S, P, M, X, W, hg, hc0, hc1⟩ := A
  obtain ⟨k0, k1, k2, k3, k4, k5, g0, g1, g2, g3, g4, g5, g6, g7⟩ := X
  obtain ⟨v0, v1, v2, v3, v4, v5, v6, v7, v8, w0, w1, w2, w3, w4, w5, w6, w7, w8, w9⟩ := M
  have h40 : Nc c0 ≤ 40 := hc0.2
  have sb := sti_bd (c0 := c0) (c1 := c1) hg h40
  have e1 := W.2.2.2.1
  have e2 := W.2.2.1.1
  unfold w_X1_movedBy
  simp only [okA, pair_ex, some_ex, k0, k1, k2, k3, k4, k5, g0, g1, g2, g3, g4, g5, g6, g7, v0, v1, v2, v3, v4, v5, v6, v7, v8, w0, w1, w2, w3, w4, w5, w6, w7, w8, w9, Nat.add_left_cancel_iff, Nat.reduceEqDiff, Nat.add_eq_left, Nat.left_eq_add, if_true, if_false, Nat.reduceAdd, true_and, and_true, Nat.one_ne_zero, Nat.succ_ne_self, e1, e2, inR]
  refine ⟨⟨by omega, by omega⟩, ?_⟩
  have e : (mvd c0 c1 st F f : Int) = (if (0 : Int) < (if (F : Int) < f - sti c0 c1 st then (F : Int) else f - sti c0 c1 st) then (if (F : Int) < f - sti c0 c1 st then (F : Int) else f - sti c0 c1 st) else 0) := by
    unfold mvd
    rw [Int.toNat_of_nonneg]
    split <;> omega
  rw [← e]; exact q
theorem m_cellOf {zz : Nat → Nat} {s t0 t1 F k : Nat} {f : Int} {h : AH} {Q : Int → AH → Prop} {c0 c1 st : Nat → Int} (A : WA h s t0 t1 c0 c1 st F) (hk : k < Nc c0) (hf : -10 ≤ f ∧ f ≤ 1000) (q : Q (plA c0 c1 st F k f) h) : w_X1_cellOf zz (s + 8) k f h Q := by
  have A0 := A
  obtain ⟨S, P, M, X, W, hg, hc0, hc1⟩ := A
  obtain ⟨k0, k1, k2, k3, k4, k5, g0, g1, g2, g3, g4, g5, g6, g7⟩ := X
  obtain ⟨v0, v1, v2, v3, v4, v5, v6, v7, v8, w0, w1, w2, w3, w4, w5, w6, w7, w8, w9⟩ := M
  have h40 : Nc c0 ≤ 40 := hc0.2
  unfold w_X1_cellOf
  refine ⟨by rw [okA_of k0], m_isGone A0 hk ?_⟩
  unfold plA at q
  by_cases e : kfA c0 c1 st k = 4 ∧ gonA c0 c1 st k ≤ f
  · rw [if_pos e]; rw [if_pos e] at q
    exact ⟨fun h => absurd h (by omega), fun _ => q⟩
  · rw [if_neg e]; rw [if_neg e] at q
    refine ⟨fun _ => ⟨by rw [okA_of k0], s + 21, g1, by rw [okA_of k0], m_movedBy A0 hf ?_⟩, fun h => absurd rfl h⟩
    have hm := mvd_le (c0 := c0) (c1 := c1) (st := st) (F := F) (f := f)
    have hF := W.2.2.2.2.2.2.2
    have e3 := W.2.2.1.2.2.2 (mvd c0 c1 st F f) k hm hk
    unfold w_X2_cellAfter
    simp only [okA, okI, pair_ex, some_ex, v0, v1, v2, v3, v4, v5, v6, v7, v8, w0, w1, w2, w3, w4, w5, w6, w7, w8, w9, Nat.add_left_cancel_iff, Nat.reduceEqDiff, Nat.add_eq_left, Nat.left_eq_add, if_true, if_false, Nat.reduceAdd, true_and, and_true, Nat.one_ne_zero, Nat.succ_ne_self, e3, inR]
    exact ⟨⟨by omega, by omega⟩, ⟨by omega, by omega⟩, ⟨by omega, by omega⟩, q⟩
