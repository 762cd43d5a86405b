/-! SECOND LAW, 5: its search for the common letters -/
/-- what the search holds, s the next set, st the one that is sought -/
def CSs (L S s most : Nat) (O bf : Nat → Int) : Prop := most ≤ L ∧ (most = L → LEs L O bf) ∧ (1 ≤ S → S < s → most = L ∧ ∀ k, k < L → bf k = O k)
theorem LEs.ext {L : Nat} {f g g' : Nat → Int} (h : LEs L f g) (e : ∀ k, k < L → g k = g' k) : LEs L f g' := by
  rcases h with h | ⟨k, h1, h2, h3⟩
  · exact .inl (fun k hk => by rw [h k hk, e k hk])
  · exact .inr ⟨k, h1, fun j hj => by rw [h2 j hj, e j (by omega)], by rw [← e k h1]; exact h3⟩
theorem LEs.not {L k : Nat} {f g : Nat → Int} (h : LEs L f g) (hk : k < L) (hp : ∀ j, j < k → f j = g j) : ¬ g k < f k := by
  intro hlt
  rcases h with h | ⟨m, h1, h2, h3⟩
  · have := h k hk; omega
  · by_cases e : m < k
    · have := hp m e; omega
    · by_cases e2 : k < m
      · have := h2 k e2; omega
      · have : m = k := by omega
        subst this; omega
def bpS (s i : Nat) : Bool := decide (s / 2 ^ i % 2 = 1)
section CSL
variable {eq : Nat → Nat → Bool} {n0 n1 S s most : Nat} {bf : Nat → Int}
theorem cs_star (hS : ∀ i, i < n0 → (S / 2 ^ i % 2 = 1 ↔ (cmT eq n0 n1 i).isSome = true)) : ∃ z, gw eq n1 (bpS S) n0 = some z ∧ z.1 = lgT eq n0 n1 0 0 ∧ ∀ k, k < lgT eq n0 n1 0 0 → z.2.2 k = cmO eq n0 n1 n0 k := by
  obtain ⟨z, h1, h2, h3, h4⟩ := gw_star (eq := eq) (n0 := n0) (n1 := n1) n0 (Nat.le_refl _)
  rw [cm_full] at h2
  refine ⟨z, ?_, h2, fun k hk => h4 k (by omega)⟩
  rw [← h1]
  refine gw_ext n0 (fun i hi => ?_)
  unfold bpS
  cases e : (cmT eq n0 n1 i).isSome with
  | true => exact decide_eq_true ((hS i hi).mpr e)
  | false => exact decide_eq_false (fun h => by rw [(hS i hi).mp h] at e; cases e)
theorem cs_skip (hS : ∀ i, i < n0 → (S / 2 ^ i % 2 = 1 ↔ (cmT eq n0 n1 i).isSome = true)) (C : CSs (lgT eq n0 n1 0 0) S s most (cmO eq n0 n1 n0) bf) (h : gw eq n1 (bpS s) n0 = none) : CSs (lgT eq n0 n1 0 0) S (s + 1) most (cmO eq n0 n1 n0) bf := by
  refine ⟨C.1, C.2.1, fun h1 h2 => ?_⟩
  by_cases e : S = s
  · subst e
    obtain ⟨z, h3, -⟩ := cs_star hS
    rw [h] at h3; cases h3
  · exact C.2.2 h1 (by omega)
theorem cs_less {z : GT} (hS : ∀ i, i < n0 → (S / 2 ^ i % 2 = 1 ↔ (cmT eq n0 n1 i).isSome = true)) (C : CSs (lgT eq n0 n1 0 0) S s most (cmO eq n0 n1 n0) bf) (h : gw eq n1 (bpS s) n0 = some z) (hl : z.1 < most) : CSs (lgT eq n0 n1 0 0) S (s + 1) most (cmO eq n0 n1 n0) bf := by
  refine ⟨C.1, C.2.1, fun h1 h2 => ?_⟩
  by_cases e : S = s
  · subst e
    obtain ⟨y, h3, h4, -⟩ := cs_star hS
    rw [h] at h3; cases h3
    have := C.1; omega
  · exact C.2.2 h1 (by omega)
theorem cs_keep {z : GT} (hS : ∀ i, i < n0 → (S / 2 ^ i % 2 = 1 ↔ (cmT eq n0 n1 i).isSome = true)) (C : CSs (lgT eq n0 n1 0 0) S s most (cmO eq n0 n1 n0) bf) (h : gw eq n1 (bpS s) n0 = some z) (hl : z.1 = most) (hc : (∀ k, k < most → z.2.2 k = bf k) ∨ ∃ k, k < most ∧ (∀ j, j < k → z.2.2 j = bf j) ∧ bf k < z.2.2 k) : CSs (lgT eq n0 n1 0 0) S (s + 1) most (cmO eq n0 n1 n0) bf := by
  refine ⟨C.1, C.2.1, fun h1 h2 => ?_⟩
  by_cases e : S = s
  · subst e
    obtain ⟨y, h3, h4, h5⟩ := cs_star hS
    rw [h] at h3; cases h3
    have hm : most = lgT eq n0 n1 0 0 := by omega
    refine ⟨hm, fun k hk => ?_⟩
    rcases hc with hc | ⟨m, m1, m2, m3⟩
    · rw [← hc k (by omega)]; exact h5 k hk
    · exfalso
      refine (C.2.1 hm).not (k := m) (by omega) (fun j hj => by rw [← m2 j hj]; exact (h5 j (by omega)).symm) ?_
      rw [← h5 m (by omega)]; exact m3
  · exact C.2.2 h1 (by omega)
theorem cs_repl {z : GT} {bg : Nat → Int} (hn : n1 ≤ 8) (hS : ∀ i, i < n0 → (S / 2 ^ i % 2 = 1 ↔ (cmT eq n0 n1 i).isSome = true)) (C : CSs (lgT eq n0 n1 0 0) S s most (cmO eq n0 n1 n0) bf) (h : gw eq n1 (bpS s) n0 = some z) (hc : most < z.1 ∨ z.1 = most ∧ ∃ k, k < most ∧ (∀ j, j < k → z.2.2 j = bf j) ∧ z.2.2 k < bf k) (hg : ∀ k, k < z.1 → bg k = z.2.2 k) : CSs (lgT eq n0 n1 0 0) S (s + 1) z.1 (cmO eq n0 n1 n0) bg := by
  obtain ⟨b1, b2⟩ := gw_best (n0 := n0) hn h
  refine ⟨b1, fun he => (b2 he).ext (fun k hk => (hg k (by omega)).symm), fun h1 h2 => ?_⟩
  by_cases e : S = s
  · subst e
    obtain ⟨y, h3, h4, h5⟩ := cs_star hS
    rw [h] at h3; cases h3
    exact ⟨h4, fun k hk => by rw [hg k (by omega)]; exact h5 k hk⟩
  · exfalso
    obtain ⟨c1, c2⟩ := C.2.2 h1 (by omega)
    rcases hc with hc | ⟨hc, k, k1, k2, k3⟩
    · omega
    · refine (b2 (by omega)).not (k := k) (by omega) (fun j hj => by rw [k2 j hj]; exact (c2 j (by omega)).symm) ?_
      rw [← c2 k (by omega)]; exact k3
end CSL
/-- new cells; of the old ones those in [u, v) may have changed -/
def Gn (h h' : AH) (u v : Nat) : Prop := hlo h' = hlo h ∧ hn h ≤ hn h' ∧ ∀ q, q < hn h → hkd h' q = hkd h q ∧ ((q < u ∨ v ≤ q) → hfI h' q = hfI h q ∧ hfR h' q = hfR h q ∧ hfL h' q = hfL h q ∧ haI h' q = haI h q ∧ haR h' q = haR h q ∧ haL h' q = haL h q)
theorem Gn.refl (h : AH) (u v : Nat) : Gn h h u v := ⟨rfl, Nat.le_refl _, fun _ _ => ⟨rfl, fun _ => ⟨rfl, rfl, rfl, rfl, rfl, rfl⟩⟩⟩
theorem Gn.trans {h h1 h2 : AH} {u v : Nat} (x : Gn h h1 u v) (y : Gn h1 h2 u v) : Gn h h2 u v := ⟨y.1.trans x.1, Nat.le_trans x.2.1 y.2.1, fun q hq => by
  obtain ⟨a, b⟩ := x.2.2 q hq
  obtain ⟨c, d⟩ := y.2.2 q (Nat.lt_of_lt_of_le hq x.2.1)
  refine ⟨c.trans a, fun h => ?_⟩
  obtain ⟨x1, x2, x3, x4, x5, x6⟩ := b h
  obtain ⟨y1, y2, y3, y4, y5, y6⟩ := d h
  exact ⟨y1.trans x1, y2.trans x2, y3.trans x3, y4.trans x4, y5.trans x5, y6.trans x6⟩⟩
theorem Ga.gn {h h' : AH} {a b u v : Nat} (x : Ga h h' a b) (h1 : u ≤ a) (h2 : b ≤ v) : Gn h h' u v := ⟨x.2.1, x.2.2.1, fun q _ => ⟨by rw [x.1], fun hq => x.2.2.2 q (by omega)⟩⟩
theorem Fr.gn {h h' : AH} {a b u v : Nat} (x : Fr h h' a b) (h1 : u ≤ a) (h2 : b ≤ v) : Gn h h' u v := (x.ga (Nat.le_refl _) (Nat.le_refl _)).gn h1 h2
/-- changes of new cells count for nothing -/
theorem Gn.old {h g g' : AH} {u v : Nat} (x : Gn h g u v) {a b : Nat} (y : Fr g g' a b) (ha : hn h ≤ a) : Gn h g' u v := ⟨y.lo.trans x.1, by rw [y.n]; exact x.2.1, fun q hq => by
  obtain ⟨c, d⟩ := x.2.2 q hq
  refine ⟨by rw [y.kd]; exact c, fun hh => ?_⟩
  obtain ⟨x1, x2, x3, x4, x5, x6⟩ := d hh
  exact ⟨by rw [y.fi (by omega)]; exact x1, by rw [y.rf]; exact x2, by rw [y.1.2.2.2.2.1]; exact x3, by rw [y.ai (by omega)]; exact x4, by rw [y.ar]; exact x5, by rw [y.1.2.2.2.2.2]; exact x6⟩⟩
theorem Gn.ai {h g : AH} {u v n : Nat} (x : Gn h g u v) : Gn h (nAI g n) u v := ⟨x.1, by rw [hn_nAI]; have := x.2.1; omega, fun q hq => by
  obtain ⟨c, d⟩ := x.2.2 q hq
  have := x.2.1
  refine ⟨by rw [hkd_nAI, if_neg (by omega)]; exact c, fun hh => ?_⟩
  obtain ⟨x1, x2, x3, x4, x5, x6⟩ := d hh
  exact ⟨x1, x2, x3, by rw [haI_nAI, if_neg (by omega)]; exact x4, x5, x6⟩⟩
theorem LK.gn {h h' : AH} {b u v : Nat} {c0 c1 st : Nat → Int} (K : LK h b c0 c1 st) (F : Gn h h' u v) (hr : v ≤ b ∨ b + 4 ≤ u) (hn0 : b + 4 ≤ hn h) : LK h' b c0 c1 st := K.cong F.1 (fun q h1 h2 => by
  obtain ⟨c, d⟩ := F.2.2 q (by omega)
  exact ⟨c, (d (by omega)).2.2.2.1⟩)
theorem PaR.gn {h h' : AH} {p n u v : Nat} {f1 f2 : Nat → Int} (P : PaR h p n f1 f2) (F : Gn h h' u v) (hr : v ≤ p ∨ p < u) (hp : p < hn h) : PaR h' p n f1 f2 := P.cong F.1 (by
  obtain ⟨c, d⟩ := F.2.2 p hp
  exact ⟨c, (d (by omega)).2.2.2.1⟩)
theorem PoR.gn {h h' : AH} {p n u v : Nat} {f : Nat → Int} (P : PoR h p n f) (F : Gn h h' u v) (hr : v ≤ p ∨ p < u) (hp : p < hn h) : PoR h' p n f := P.cong F.1 (by
  obtain ⟨c, d⟩ := F.2.2 p hp
  exact ⟨c, (d (by omega)).2.2.2.1⟩)
