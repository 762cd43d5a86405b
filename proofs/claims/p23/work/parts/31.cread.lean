/-! THE PURE LAYER, 15: the buffer read (both programs mean this); the class reading it -/
abbrev RT : Type := Int × Int × Int × (Nat → Int)
def isL (c : Int) : Bool := decide (97 ≤ c) && decide (c ≤ 122)
theorem isL_i {c : Int} : isL c = true ↔ 97 ≤ c ∧ c ≤ 122 := by unfold isL; simp
def rok (z : RT) (c : Int) : Bool := if c = 47 then decide (z.1 < 4) else decide (z.2.1 < 16) && (decide (c = 46) || isL c && decide (z.2.2.1 < 40))
def rst (z : RT) (c : Int) : RT := if c = 47 then (z.1 + 1, 0, z.2.2.1, z.2.2.2) else if c = 46 then (z.1, z.2.1 + 1, z.2.2.1, z.2.2.2) else (z.1, z.2.1 + 1, z.2.2.1 + 1, un z.2.2.2 (16 * z.1 + z.2.1).toNat c)
def rR (buf : Nat → Int) : Nat → RT
  | 0 => (0, 0, 0, fun _ => 32)
  | k + 1 => rst (rR buf k) (buf k)
def rE (buf : Nat → Int) (len : Nat) : Nat := match fnd (fun k => !rok (rR buf k) (buf k)) len 0 with
  | none => len
  | some k => k
theorem cn_ext {c c' : Nat → Int} {n : Nat} (h : ∀ k, k < n → c k = c' k) : cn c n = cn c' n := (cp_ext h n (Nat.le_refl _)).1
theorem cn_un {c : Nat → Int} {q n : Nat} {v : Int} (hq : q < n) : cn (un c q v) n + (if c q = 32 then 0 else 1) = cn c n + (if v = 32 then 0 else 1) := by
  induction n with
  | zero => omega
  | succ n ih =>
    rw [cn_s, cn_s]
    by_cases e : q = n
    · subst e
      rw [un_s, cn_ext (c' := c) (fun k hk => un_n (by omega))]; omega
    · have := ih (by omega)
      rw [un_n (show n ≠ q by omega)]; omega
/-- what is so while the reading goes on -/
def rI (z : RT) : Prop := (0 ≤ z.1 ∧ z.1 ≤ 4) ∧ (0 ≤ z.2.1 ∧ z.2.1 ≤ 16) ∧ (0 ≤ z.2.2.1 ∧ z.2.2.1 ≤ 40) ∧ (∀ q : Nat, 16 * z.1 + z.2.1 ≤ (q : Int) → z.2.2.2 q = 32) ∧ (∀ q : Nat, z.2.2.2 q = 32 ∨ 97 ≤ z.2.2.2 q ∧ z.2.2.2 q ≤ 122) ∧ (cn z.2.2.2 80 : Int) = z.2.2.1
theorem rI_0 : rI (0, 0, 0, fun _ => 32) := ⟨by show (0 : Int) ≤ 0 ∧ (0 : Int) ≤ 4; omega, by show (0 : Int) ≤ 0 ∧ (0 : Int) ≤ 16; omega, by show (0 : Int) ≤ 0 ∧ (0 : Int) ≤ 40; omega, fun _ _ => rfl, fun _ => .inl rfl, by rw [cn_blank (fun _ _ => rfl)]; rfl⟩
theorem rI_s {z : RT} {c : Int} (w : rI z) (h : rok z c = true) : rI (rst z c) := by
  obtain ⟨w1, w2, w3, w4, w5, w6⟩ := w
  unfold rok at h
  unfold rst
  by_cases e : c = 47
  · rw [if_pos e] at h ⊢
    have h : z.1 < 4 := of_decide_eq_true h
    refine ⟨by show 0 ≤ z.1 + 1 ∧ z.1 + 1 ≤ 4; omega, by show (0 : Int) ≤ 0 ∧ (0 : Int) ≤ 16; omega, w3, fun q hq => w4 q ?_, w5, w6⟩
    have hq : 16 * (z.1 + 1) + 0 ≤ (q : Int) := hq
    omega
  · rw [if_neg e] at h ⊢
    simp only [Bool.and_eq_true, Bool.or_eq_true, decide_eq_true_eq] at h
    by_cases e2 : c = 46
    · rw [if_pos e2]
      refine ⟨w1, by show 0 ≤ z.2.1 + 1 ∧ z.2.1 + 1 ≤ 16; omega, w3, fun q hq => w4 q ?_, w5, w6⟩
      have hq : 16 * z.1 + (z.2.1 + 1) ≤ (q : Int) := hq
      omega
    · rw [if_neg e2]
      have hl : (97 ≤ c ∧ c ≤ 122) ∧ z.2.2.1 < 40 := by
        rcases h.2 with h2 | h2
        · exact absurd h2 e2
        · exact ⟨isL_i.mp h2.1, h2.2⟩
      obtain ⟨p, hp⟩ : ∃ p : Nat, (p : Int) = 16 * z.1 + z.2.1 := ⟨(16 * z.1 + z.2.1).toNat, by omega⟩
      have hp2 : (16 * z.1 + z.2.1).toNat = p := by omega
      rw [hp2]
      refine ⟨w1, by show 0 ≤ z.2.1 + 1 ∧ z.2.1 + 1 ≤ 16; omega, by show 0 ≤ z.2.2.1 + 1 ∧ z.2.2.1 + 1 ≤ 40; omega, fun q hq => ?_, fun q => ?_, ?_⟩
      · have hq : 16 * z.1 + (z.2.1 + 1) ≤ (q : Int) := hq
        show un z.2.2.2 p c q = 32
        rw [un_n (by omega)]; exact w4 q (by omega)
      · show un z.2.2.2 p c q = 32 ∨ 97 ≤ un z.2.2.2 p c q ∧ un z.2.2.2 p c q ≤ 122
        by_cases e3 : q = p
        · rw [e3, un_s]; exact .inr hl.1
        · rw [un_n e3]; exact w5 q
      · show (cn (un z.2.2.2 p c) 80 : Int) = z.2.2.1 + 1
        have := cn_un (c := z.2.2.2) (v := c) (show p < 80 by omega)
        rw [if_pos (w4 p (by omega)), if_neg (by omega)] at this
        omega
theorem rI_R {buf : Nat → Int} : ∀ k, (∀ j, j < k → rok (rR buf j) (buf j) = true) → rI (rR buf k) := by
  intro k
  induction k with
  | zero => intro _; exact rI_0
  | succ k ih => intro h; exact rI_s (ih (fun j hj => h j (by omega))) (h k (by omega))
theorem rE_ok {buf : Nat → Int} {len : Nat} : rE buf len ≤ len ∧ (∀ j, j < rE buf len → rok (rR buf j) (buf j) = true) := by
  unfold rE
  cases e : fnd (fun k => !rok (rR buf k) (buf k)) len 0 with
  | none =>
    refine ⟨Nat.le_refl _, fun j hj => ?_⟩
    have hj : j < len := hj
    have := fnd_none.mp e j (by omega) (by omega)
    simpa using this
  | some k =>
    have f := fnd_some e
    refine ⟨by show k ≤ len; omega, fun j hj => ?_⟩
    have hj : j < k := hj
    have := f.2.2.2 j (by omega) hj
    simpa using this
theorem rE_at {buf : Nat → Int} {len k : Nat} (hk : k < len) (h : ∀ j, j < k → rok (rR buf j) (buf j) = true) (hn : rok (rR buf k) (buf k) = false) : rE buf len = k := by
  unfold rE
  rw [fnd_is (x := k) (by omega) (by omega) (by rw [hn]; rfl) (fun y _ h2 => by rw [h y h2]; rfl)]
theorem rE_end {buf : Nat → Int} {len : Nat} (h : ∀ j, j < len → rok (rR buf j) (buf j) = true) : rE buf len = len := by
  unfold rE
  rw [fnd_none.mpr (fun y _ h2 => by rw [h y (by omega)]; rfl)]
/-- the class's buffer at b -/
def BK (h : AH) (b : Nat) : Prop := hkd h b = (4, 0) ∧ hkd h (b + 1) = (1, 60) ∧ hkd h (b + 2) = (1, 80) ∧ hfR h b 0 = some (b + 1) ∧ hfR h b 1 = some (b + 2) ∧ hlo h ≤ b
theorem BK.fr {h h' : AH} {a b q : Nat} (T : BK h q) (F : Fr h h' a b) : BK h' q := by
  unfold BK at *; rw [F.kd, F.rf, F.lo]; exact T
def BR (h : AH) (b : Nat) (buf : Nat → Int) (len : Nat) : Prop := hfI h b 2 = (len : Int) ∧ len ≤ 60 ∧ ∀ k : Nat, k < len → haI h (b + 1) k = buf k
theorem m_isLetter {zz : Nat → Nat} {c : Int} {h : AH} {Q : Int → AH → Prop} (q : Q (if isL c = true then 1 else 0) h) : w_X6_isLetter zz c h Q := by
  unfold w_X6_isLetter
  simp only [jn_def]
  refine ⟨fun h1 => ⟨.inl trivial, ?_⟩, fun h1 => ⟨fun h2 => ⟨.inl trivial, ?_⟩, fun h2 => ⟨.inr trivial, ?_⟩⟩⟩
  · rw [if_neg (fun h => by have := isL_i.mp h; omega)] at q; exact q
  · rw [if_neg (fun h => by have := isL_i.mp h; omega)] at q; exact q
  · rw [if_pos (isL_i.mpr (by omega))] at q; exact q
theorem m_read {zz : Nat → Nat} {b len : Nat} {buf : Nat → Int} {h : AH} {Q : Int → AH → Prop} (B : BK h b) (R : BR h b buf len) (q : ∀ h' : AH, Fr h h' (b + 2) (b + 3) → (∀ c : Nat, c < 80 → haI h' (b + 2) c = (rR buf (rE buf len)).2.2.2 c) → Q (rE buf len : Int) h') : w_X0_read zz b h Q := by
  have B0 := B
  obtain ⟨k0, k1, k2, r0, r1, lo⟩ := B
  obtain ⟨R1, R2, R3⟩ := R
  unfold w_X0_read
  refine ⟨by rw [okA_of k0], b + 2, r1, m_fill k2 (by omega) (by omega) ?_⟩
  have F0 : Fr h (saI h (b + 2) (flA 32 80 (haI h (b + 2)))) (b + 2) (b + 3) := Fr.sa (by omega) (by omega)
  have D0 : ∀ c : Nat, c < 80 → haI (saI h (b + 2) (flA 32 80 (haI h (b + 2)))) (b + 2) c = (rR buf 0).2.2.2 c := fun c hc => by
    rw [haI_saI, if_pos rfl]; unfold flA; rw [if_pos (by omega)]; rfl
  revert F0 D0
  generalize saI h (b + 2) (flA 32 80 (haI h (b + 2))) = g
  intro F0 D0
  obtain ⟨I, hI⟩ : ∃ I : Nat → Int → Int → Int → Int → AH → Prop, ∀ m x1 x2 x3 x4 h', I m x1 x2 x3 x4 h' ↔ ∃ k : Nat, k ≤ len ∧ m = len - k ∧ x4 = (k : Int) ∧ x1 = (rR buf k).1 ∧ x2 = (rR buf k).2.1 ∧ x3 = (rR buf k).2.2.1 ∧ Fr h h' (b + 2) (b + 3) ∧ (∀ c : Nat, c < 80 → haI h' (b + 2) c = (rR buf k).2.2.2 c) ∧ ∀ j, j < k → rok (rR buf j) (buf j) = true := ⟨_, fun _ _ _ _ _ _ => Iff.rfl⟩
  refine ⟨I, ⟨_, (hI _ _ _ _ _ _).mpr ⟨0, by omega, rfl, rfl, rfl, rfl, rfl, F0, D0, fun j hj => by omega⟩⟩, ?_⟩
  intro m x1 x2 x3 x4 h' hi9
  obtain ⟨k, hk, rfl, rfl, rfl, rfl, rfl, F1, D1, K1⟩ := (hI _ _ _ _ _ _).mp hi9
  have B1 := B0.fr F1
  have w := rI_R k K1
  obtain ⟨k0, k1, k2, r0, r1, lo'⟩ := B1
  have y1 : hfI h' b 2 = (len : Int) := by rw [F1.fi (by omega)]; exact R1
  simp only [okA, okI, jn_def, pair_ex, some_ex, forall_eq, k0, k1, k2, r0, r1, y1, Nat.add_left_cancel_iff, Nat.reduceEqDiff, Nat.add_eq_left, Nat.left_eq_add, if_true, if_false, Nat.reduceAdd, true_and, and_true, Nat.one_ne_zero, Nat.succ_ne_self]
  refine ⟨fun hc => ?_, fun hc => ?_⟩
  · obtain rfl : k = len := by omega
    have e := rE_end K1
    rw [e] at q
    exact q h' F1 D1
  · have hk9 : k < len := by omega
    have y2 : haI h' (b + 1) k = buf k := by rw [F1.ai (by omega)]; exact R3 k hk9
    have stop : rok (rR buf k) (buf k) = false → Q (k : Int) h' := fun hn => by
      have e := rE_at hk9 K1 hn
      rw [e] at q
      exact q h' F1 D1
    have step : rR buf (k + 1) = rst (rR buf k) (buf k) := rfl
    obtain ⟨w1, w2, w3, w4, w5, w6⟩ := w
    have fin : ∀ g : AH, ∀ u1 u2 u3 : Int, rok (rR buf k) (buf k) = true → u1 = (rR buf (k + 1)).1 → u2 = (rR buf (k + 1)).2.1 → u3 = (rR buf (k + 1)).2.2.1 → Fr h g (b + 2) (b + 3) → (∀ c : Nat, c < 80 → haI g (b + 2) c = (rR buf (k + 1)).2.2.2 c) → inR ((k : Int) + 1) ∧ ∃ m, m < len - k ∧ I m u1 u2 u3 ((k : Int) + 1) g := by
      intro g u1 u2 u3 hok e1 e2 e3 Fg Dg
      refine ⟨by unfold inR; omega, len - (k + 1), by omega, (hI _ _ _ _ _ _).mpr ⟨k + 1, by omega, rfl, by omega, e1, e2, e3, Fg, Dg, fun j hj => ?_⟩⟩
      by_cases ej : j = k
      · rw [ej]; exact hok
      · exact K1 j (by omega)
    simp only [y2]
    generalize hz : rR buf k = z at *
    generalize hcc : buf k = c at *
    refine ⟨⟨by omega, by omega⟩, fun hn => ⟨fun hn2 => ?_, fun hd => ⟨fun hcol => ?_, fun hcol => ?_⟩⟩, fun hs => ⟨by unfold inR; omega, fun hlt => ?_, fun hge => ?_⟩⟩
    · refine m_isLetter ?_
      have rk : rok z c = (decide (z.2.1 < 16) && (isL c && decide (z.2.2.1 < 40))) := by
        unfold rok; rw [if_neg hn, decide_eq_false hn2, Bool.false_or]
      by_cases el : isL c = true
      · rw [if_pos el]
        refine ⟨fun h => absurd h (by omega), fun _ => ⟨fun h16 => stop ?_, fun h16 => ⟨fun h4 => stop ?_, fun h4 => ?_⟩⟩⟩
        · rw [rk, decide_eq_false (by omega)]; rfl
        · rw [rk, decide_eq_false (show ¬ (z.2.2.1 < 40) by omega), Bool.and_false, Bool.and_false]
        · have hok : rok z c = true := by rw [rk, el, decide_eq_true (show z.2.1 < 16 by omega), decide_eq_true (show z.2.2.1 < 40 by omega)]; rfl
          have st : rst z c = (z.1, z.2.1 + 1, z.2.2.1 + 1, un z.2.2.2 (16 * z.1 + z.2.1).toNat c) := by unfold rst; rw [if_neg hn, if_neg hn2]
          rw [st] at step
          simp only [okW, pair_ex, some_ex, k0, k2, r1, inR, Nat.add_left_cancel_iff, Nat.reduceEqDiff, Nat.add_eq_left, Nat.left_eq_add, if_true, if_false, Nat.reduceAdd, true_and, and_true, Nat.one_ne_zero, Nat.succ_ne_self]
          refine ⟨⟨by omega, by omega⟩, ⟨by omega, by omega⟩, ⟨by omega, by omega, by omega⟩, ⟨by omega, by omega⟩, ⟨by omega, by omega⟩, ?_⟩
          have := fin (saI h' (b + 2) (u1 (haI h' (b + 2)) (16 * z.1 + z.2.1) c)) (z.1) (z.2.1 + 1) (z.2.2.1 + 1) hok (by rw [step]) (by rw [step]) (by rw [step]) (F1.tsa (by omega) (by omega)) (fun d hd => by
            rw [haI_saI, if_pos rfl, u1_apply, step, D1 d hd]
            exact u1_unI (by omega))
          unfold inR at this
          exact this
      · rw [if_neg el]
        refine ⟨fun _ => stop ?_, fun h => absurd rfl h⟩
        rw [rk, Bool.eq_false_iff.mpr el]; simp
    · have rk : rok z c = (decide (z.2.1 < 16) && (isL c && decide (z.2.2.1 < 40))) ∨ True := .inr trivial
      refine m_isLetter ?_
      have nl : isL c = false := by unfold isL; rw [decide_eq_false (by omega)]; rfl
      rw [nl]
      refine ⟨fun _ => stop ?_, fun h => absurd rfl h⟩
      unfold rok; rw [if_neg hn, decide_eq_false (show ¬ (z.2.1 < 16) by omega)]; rfl
    · have hok : rok z c = true := by unfold rok; rw [if_neg hn, decide_eq_true (show z.2.1 < 16 by omega), decide_eq_true hd]; rfl
      have st : rst z c = (z.1, z.2.1 + 1, z.2.2.1, z.2.2.2) := by unfold rst; rw [if_neg hn, if_pos hd]
      rw [st] at step
      exact ⟨by unfold inR; omega, fin h' z.1 (z.2.1 + 1) z.2.2.1 hok (by rw [step]) (by rw [step]) (by rw [step]) F1 (fun d hd => by rw [step]; exact D1 d hd)⟩
    · have hok : rok z c = true := by unfold rok; rw [if_pos hs, decide_eq_true (by omega)]
      have st : rst z c = (z.1 + 1, 0, z.2.2.1, z.2.2.2) := by unfold rst; rw [if_pos hs]
      rw [st] at step
      exact fin h' (z.1 + 1) 0 z.2.2.1 hok (by rw [step]) (by rw [step]) (by rw [step]) F1 (fun d hd => by rw [step]; exact D1 d hd)
    · refine stop ?_
      unfold rok; rw [if_pos hs, decide_eq_false (by omega)]
