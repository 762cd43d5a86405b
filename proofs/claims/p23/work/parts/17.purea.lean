/-! THE PURE LAYER, 1: reading and writing the abstract heap -/
theorem hkd_sfI {h : AH} {a k : Nat} {v : Int} : hkd (sfI h a k v) = hkd h := rfl
theorem hkd_sfR {h : AH} {a k : Nat} {v : Option Nat} : hkd (sfR h a k v) = hkd h := rfl
theorem hkd_sfL {h : AH} {a k : Nat} {v : Int64} : hkd (sfL h a k v) = hkd h := rfl
theorem hkd_saI {h : AH} {a : Nat} {f : Int → Int} : hkd (saI h a f) = hkd h := rfl
theorem hkd_saR {h : AH} {a : Nat} {f : Int → Option Nat} : hkd (saR h a f) = hkd h := rfl
theorem hkd_saL {h : AH} {a : Nat} {f : Int → Int64} : hkd (saL h a f) = hkd h := rfl
theorem hkd_nGb {h : AH} {k : Nat} : hkd (nGb h k) = hkd h := rfl
theorem hlo_sfI {h : AH} {a k : Nat} {v : Int} : hlo (sfI h a k v) = hlo h := rfl
theorem hlo_sfR {h : AH} {a k : Nat} {v : Option Nat} : hlo (sfR h a k v) = hlo h := rfl
theorem hlo_sfL {h : AH} {a k : Nat} {v : Int64} : hlo (sfL h a k v) = hlo h := rfl
theorem hlo_saI {h : AH} {a : Nat} {f : Int → Int} : hlo (saI h a f) = hlo h := rfl
theorem hlo_saR {h : AH} {a : Nat} {f : Int → Option Nat} : hlo (saR h a f) = hlo h := rfl
theorem hlo_saL {h : AH} {a : Nat} {f : Int → Int64} : hlo (saL h a f) = hlo h := rfl
theorem hlo_nGb {h : AH} {k : Nat} : hlo (nGb h k) = hlo h := rfl
theorem hn_sfI {h : AH} {a k : Nat} {v : Int} : hn (sfI h a k v) = hn h := rfl
theorem hn_sfR {h : AH} {a k : Nat} {v : Option Nat} : hn (sfR h a k v) = hn h := rfl
theorem hn_sfL {h : AH} {a k : Nat} {v : Int64} : hn (sfL h a k v) = hn h := rfl
theorem hn_saI {h : AH} {a : Nat} {f : Int → Int} : hn (saI h a f) = hn h := rfl
theorem hn_saR {h : AH} {a : Nat} {f : Int → Option Nat} : hn (saR h a f) = hn h := rfl
theorem hn_saL {h : AH} {a : Nat} {f : Int → Int64} : hn (saL h a f) = hn h := rfl
theorem hfR_sfI {h : AH} {a k : Nat} {v : Int} : hfR (sfI h a k v) = hfR h := rfl
theorem hfR_sfL {h : AH} {a k : Nat} {v : Int64} : hfR (sfL h a k v) = hfR h := rfl
theorem hfR_saI {h : AH} {a : Nat} {f : Int → Int} : hfR (saI h a f) = hfR h := rfl
theorem hfR_saR {h : AH} {a : Nat} {f : Int → Option Nat} : hfR (saR h a f) = hfR h := rfl
theorem hfR_saL {h : AH} {a : Nat} {f : Int → Int64} : hfR (saL h a f) = hfR h := rfl
theorem hfR_nGb {h : AH} {k : Nat} : hfR (nGb h k) = hfR h := rfl
theorem hfI_sfR {h : AH} {a k : Nat} {v : Option Nat} : hfI (sfR h a k v) = hfI h := rfl
theorem hfI_sfL {h : AH} {a k : Nat} {v : Int64} : hfI (sfL h a k v) = hfI h := rfl
theorem hfI_saI {h : AH} {a : Nat} {f : Int → Int} : hfI (saI h a f) = hfI h := rfl
theorem hfI_saR {h : AH} {a : Nat} {f : Int → Option Nat} : hfI (saR h a f) = hfI h := rfl
theorem hfI_saL {h : AH} {a : Nat} {f : Int → Int64} : hfI (saL h a f) = hfI h := rfl
theorem hfI_nGb {h : AH} {k : Nat} : hfI (nGb h k) = hfI h := rfl
theorem haI_sfI {h : AH} {a k : Nat} {v : Int} : haI (sfI h a k v) = haI h := rfl
theorem haI_sfR {h : AH} {a k : Nat} {v : Option Nat} : haI (sfR h a k v) = haI h := rfl
theorem haI_sfL {h : AH} {a k : Nat} {v : Int64} : haI (sfL h a k v) = haI h := rfl
theorem haI_saR {h : AH} {a : Nat} {f : Int → Option Nat} : haI (saR h a f) = haI h := rfl
theorem haI_saL {h : AH} {a : Nat} {f : Int → Int64} : haI (saL h a f) = haI h := rfl
theorem haI_nGb {h : AH} {k : Nat} : haI (nGb h k) = haI h := rfl
theorem haR_sfI {h : AH} {a k : Nat} {v : Int} : haR (sfI h a k v) = haR h := rfl
theorem haR_sfR {h : AH} {a k : Nat} {v : Option Nat} : haR (sfR h a k v) = haR h := rfl
theorem haR_saI {h : AH} {a : Nat} {f : Int → Int} : haR (saI h a f) = haR h := rfl
theorem haR_nGb {h : AH} {k : Nat} : haR (nGb h k) = haR h := rfl
theorem haL_sfI {h : AH} {a k : Nat} {v : Int} : haL (sfI h a k v) = haL h := rfl
theorem haL_saI {h : AH} {a : Nat} {f : Int → Int} : haL (saI h a f) = haL h := rfl
theorem hfL_sfI {h : AH} {a k : Nat} {v : Int} : hfL (sfI h a k v) = hfL h := rfl
theorem hfL_saI {h : AH} {a : Nat} {f : Int → Int} : hfL (saI h a f) = hfL h := rfl
theorem hfI_sfI {h : AH} {a k b j : Nat} {v : Int} : hfI (sfI h a k v) b j = if b = a then (if j = k then v else hfI h a j) else hfI h b j := by
  show u0 (hfI h) a (u0 (hfI h a) k v) b j = _
  unfold u0; split <;> rfl
theorem hfR_sfR {h : AH} {a k b j : Nat} {v : Option Nat} : hfR (sfR h a k v) b j = if b = a then (if j = k then v else hfR h a j) else hfR h b j := by
  show u0 (hfR h) a (u0 (hfR h a) k v) b j = _
  unfold u0; split <;> rfl
theorem hfL_sfL {h : AH} {a k b j : Nat} {v : Int64} : hfL (sfL h a k v) b j = if b = a then (if j = k then v else hfL h a j) else hfL h b j := by
  show u0 (hfL h) a (u0 (hfL h a) k v) b j = _
  unfold u0; split <;> rfl
theorem haI_saI {h : AH} {a b : Nat} {f : Int → Int} : haI (saI h a f) b = if b = a then f else haI h b := rfl
theorem haR_saR {h : AH} {a b : Nat} {f : Int → Option Nat} : haR (saR h a f) b = if b = a then f else haR h b := rfl
theorem haL_saL {h : AH} {a b : Nat} {f : Int → Int64} : haL (saL h a f) b = if b = a then f else haL h b := rfl
theorem saI_saI {h : AH} {a : Nat} {f g : Int → Int} : saI (saI h a f) a g = saI h a g := by
  show (h.1, hkd h, hfI h, hfR h, hfL h, u0 (u0 (haI h) a f) a g, haR h, haL h) = (h.1, hkd h, hfI h, hfR h, hfL h, u0 (haI h) a g, haR h, haL h)
  have e : u0 (u0 (haI h) a f) a g = u0 (haI h) a g := by
    funext q; unfold u0; split <;> rfl
  rw [e]
theorem saI_comm {h : AH} {a b : Nat} {f g : Int → Int} (hb : b < a) : saI (saI h a f) b g = saI (saI h b g) a f := by
  show (h.1, hkd h, hfI h, hfR h, hfL h, u0 (u0 (haI h) a f) b g, haR h, haL h) = (h.1, hkd h, hfI h, hfR h, hfL h, u0 (u0 (haI h) b g) a f, haR h, haL h)
  have e : u0 (u0 (haI h) a f) b g = u0 (u0 (haI h) b g) a f := by
    funext q; unfold u0
    by_cases h1 : q = b
    · by_cases h2 : q = a
      · omega
      · simp [h1, show ¬ b = a by omega]
    · simp [h1]
  rw [e]
theorem sfI_saI {h : AH} {a b k : Nat} {f : Int → Int} {v : Int} : sfI (saI h a f) b k v = saI (sfI h b k v) a f := rfl
theorem sfI_sfI {h : AH} {a k : Nat} {v w : Int} : sfI (sfI h a k v) a k w = sfI h a k w := by
  show (h.1, hkd h, u0 (u0 (hfI h) a (u0 (hfI h a) k v)) a (u0 (u0 (hfI h) a (u0 (hfI h a) k v) a) k w), hfR h, hfL h, haI h, haR h, haL h) = (h.1, hkd h, u0 (hfI h) a (u0 (hfI h a) k w), hfR h, hfL h, haI h, haR h, haL h)
  have e : u0 (u0 (hfI h) a (u0 (hfI h a) k v)) a (u0 (u0 (hfI h) a (u0 (hfI h a) k v) a) k w) = u0 (hfI h) a (u0 (hfI h a) k w) := by
    funext q j; unfold u0
    by_cases h1 : q = a
    · by_cases h2 : j = k <;> simp [h1, h2]
    · simp [h1]
  rw [e]
theorem saI_self {h : AH} {a : Nat} : saI h a (haI h a) = h := by
  show (h.1, hkd h, hfI h, hfR h, hfL h, u0 (haI h) a (haI h a), haR h, haL h) = h
  have e : u0 (haI h) a (haI h a) = haI h := by
    funext q; unfold u0; split
    next h1 => rw [h1]
    next => rfl
  rw [e]; rfl
theorem sfI_self {h : AH} {a k : Nat} : sfI h a k (hfI h a k) = h := by
  show (h.1, hkd h, u0 (hfI h) a (u0 (hfI h a) k (hfI h a k)), hfR h, hfL h, haI h, haR h, haL h) = h
  have e : u0 (hfI h) a (u0 (hfI h a) k (hfI h a k)) = hfI h := by
    funext q j
    by_cases h1 : q = a
    · subst h1
      rw [u0_s]
      by_cases h2 : j = k
      · subst h2; rw [u0_s]
      · rw [u0_n h2]
    · rw [u0_n h1]
  rw [e]; rfl
theorem u1_apply {α : Type} {f : Int → α} {i j : Int} {v : α} : u1 f i v j = if j = i then v else f j := rfl
theorem pair_ex {n : Nat} {P : Nat → Prop} : (∃ m : Nat, ((1, n) : Nat × Nat) = (1, m) ∧ P m) ↔ P n := by
  constructor
  · rintro ⟨m, h1, h2⟩; cases h1; exact h2
  · exact fun h => ⟨n, rfl, h⟩
theorem okI_of {h : AH} {a n : Nat} {i : Int} (k : hkd h a = (1, n)) : okI h a i = (0 ≤ i ∧ i < (n : Int)) := by
  unfold okI; rw [k]; exact propext pair_ex
theorem okW_of {h : AH} {a n : Nat} {i : Int} (k : hkd h a = (1, n)) : okW h a i = (0 ≤ i ∧ i < (n : Int) ∧ hlo h ≤ a) := by
  unfold okW; rw [k]; exact propext pair_ex
theorem okJ_of {h : AH} {a n : Nat} {i : Int} (k : hkd h a = (2, n)) : okJ h a i = (0 ≤ i ∧ i < (n : Int)) := by
  unfold okJ; rw [k]
  exact propext ⟨fun ⟨m, h1, h2⟩ => by cases h1; exact h2, fun h => ⟨n, rfl, h⟩⟩
theorem okV_of {h : AH} {a n : Nat} {i : Int} (k : hkd h a = (2, n)) : okV h a i = (0 ≤ i ∧ i < (n : Int) ∧ hlo h ≤ a) := by
  unfold okV; rw [k]
  exact propext ⟨fun ⟨m, h1, h2⟩ => by cases h1; exact h2, fun h => ⟨n, rfl, h⟩⟩
theorem okQ_of {h : AH} {a n : Nat} {i : Int} (k : hkd h a = (3, n)) : okQ h a i = (0 ≤ i ∧ i < (n : Int)) := by
  unfold okQ; rw [k]
  exact propext ⟨fun ⟨m, h1, h2⟩ => by cases h1; exact h2, fun h => ⟨n, rfl, h⟩⟩
theorem okU_of {h : AH} {a n : Nat} {i : Int} (k : hkd h a = (3, n)) : okU h a i = (0 ≤ i ∧ i < (n : Int) ∧ hlo h ≤ a) := by
  unfold okU; rw [k]
  exact propext ⟨fun ⟨m, h1, h2⟩ => by cases h1; exact h2, fun h => ⟨n, rfl, h⟩⟩
theorem okA_of {h : AH} {a c n m : Nat} (k : hkd h a = (n, m)) : okA h a c = (n = c + 4) := by unfold okA; rw [k]
theorem okP_of {h : AH} {a c n m : Nat} (k : hkd h a = (n, m)) : okP h a c = (n = c + 4 ∧ hlo h ≤ a) := by unfold okP; rw [k]
theorem okC_of {h : AH} {a b na nb : Nat} {sp dp n : Int} (k1 : hkd h a = (1, na)) (k2 : hkd h b = (1, nb)) : okC h a sp b dp n = (hlo h ≤ b ∧ 0 ≤ sp ∧ 0 ≤ dp ∧ 0 ≤ n ∧ sp + n ≤ (na : Int) ∧ dp + n ≤ (nb : Int)) := by
  unfold okC; rw [k1, k2]
  refine propext ⟨fun ⟨x, y, h1, ⟨h2, h3⟩, h4⟩ => ?_, fun h => ⟨na, nb, rfl, ⟨rfl, h.1⟩, h.2⟩⟩
  cases h1; cases h2; exact ⟨h3, h4⟩
theorem some_ex {a : Nat} {P : Nat → Prop} : (∃ b : Nat, some a = some b ∧ P b) ↔ P a := ⟨fun ⟨b, h1, h2⟩ => by cases h1; exact h2, fun h => ⟨a, rfl, h⟩⟩
theorem alen_ex {n : Nat} {P : Nat → Prop} : (∃ m : Nat, ((1, n) : Nat × Nat) = (1, m) ∧ P m) ↔ P n := pair_ex
theorem jn_def {α : Type} {K : α} {B : α → Prop} : jn K B = B K := rfl
/-- the frame: nothing changed but ints of cells in [a, b) -/
def Sk (h h' : AH) : Prop := h'.1 = h.1 ∧ hkd h' = hkd h ∧ hfR h' = hfR h ∧ haR h' = haR h ∧ hfL h' = hfL h ∧ haL h' = haL h
def Fr (h h' : AH) (a b : Nat) : Prop := Sk h h' ∧ ∀ q, (q < a ∨ b ≤ q) → hfI h' q = hfI h q ∧ haI h' q = haI h q
theorem Sk.refl (h : AH) : Sk h h := ⟨rfl, rfl, rfl, rfl, rfl, rfl⟩
theorem Sk.trans {h h1 h2 : AH} (x : Sk h h1) (y : Sk h1 h2) : Sk h h2 := ⟨y.1.trans x.1, y.2.1.trans x.2.1, y.2.2.1.trans x.2.2.1, y.2.2.2.1.trans x.2.2.2.1, y.2.2.2.2.1.trans x.2.2.2.2.1, y.2.2.2.2.2.trans x.2.2.2.2.2⟩
theorem Sk.lo {h h' : AH} (x : Sk h h') : hlo h' = hlo h := by unfold hlo; rw [x.1]
theorem Fr.refl (h : AH) (a b : Nat) : Fr h h a b := ⟨Sk.refl h, fun _ _ => ⟨rfl, rfl⟩⟩
theorem Fr.trans {h h1 h2 : AH} {a b : Nat} (x : Fr h h1 a b) (y : Fr h1 h2 a b) : Fr h h2 a b := ⟨x.1.trans y.1, fun q hq => ⟨(y.2 q hq).1.trans (x.2 q hq).1, (y.2 q hq).2.trans (x.2 q hq).2⟩⟩
theorem Fr.wide {h h' : AH} {a b a' b' : Nat} (x : Fr h h' a b) (h1 : a' ≤ a) (h2 : b ≤ b') : Fr h h' a' b' := ⟨x.1, fun q hq => x.2 q (by omega)⟩
theorem Fr.sa {h : AH} {a b q : Nat} {f : Int → Int} (h1 : a ≤ q) (h2 : q < b) : Fr h (saI h q f) a b := ⟨⟨rfl, rfl, rfl, rfl, rfl, rfl⟩, fun r hr => ⟨rfl, by rw [haI_saI, if_neg (by omega)]⟩⟩
theorem Fr.sf {h : AH} {a b q k : Nat} {v : Int} (h1 : a ≤ q) (h2 : q < b) : Fr h (sfI h q k v) a b := ⟨⟨rfl, rfl, rfl, rfl, rfl, rfl⟩, fun r hr => ⟨by
  show u0 (hfI h) q _ r = _
  rw [u0_n (by omega)], rfl⟩⟩
theorem Fr.tsa {h g : AH} {a b q : Nat} {f : Int → Int} (x : Fr h g a b) (h1 : a ≤ q) (h2 : q < b) : Fr h (saI g q f) a b := x.trans (Fr.sa h1 h2)
theorem Fr.tsf {h g : AH} {a b q k : Nat} {v : Int} (x : Fr h g a b) (h1 : a ≤ q) (h2 : q < b) : Fr h (sfI g q k v) a b := x.trans (Fr.sf h1 h2)
theorem Fr.kd {h h' : AH} {a b : Nat} (x : Fr h h' a b) : hkd h' = hkd h := x.1.2.1
theorem Fr.rf {h h' : AH} {a b : Nat} (x : Fr h h' a b) : hfR h' = hfR h := x.1.2.2.1
theorem Fr.ar {h h' : AH} {a b : Nat} (x : Fr h h' a b) : haR h' = haR h := x.1.2.2.2.1
theorem Fr.lo {h h' : AH} {a b : Nat} (x : Fr h h' a b) : hlo h' = hlo h := x.1.lo
theorem Fr.n {h h' : AH} {a b : Nat} (x : Fr h h' a b) : hn h' = hn h := by unfold hn; rw [x.1.1]
theorem Fr.fi {h h' : AH} {a b : Nat} (x : Fr h h' a b) {q : Nat} (hq : q < a ∨ b ≤ q) : hfI h' q = hfI h q := (x.2 q hq).1
theorem Fr.ai {h h' : AH} {a b : Nat} (x : Fr h h' a b) {q : Nat} (hq : q < a ∨ b ≤ q) : haI h' q = haI h q := (x.2 q hq).2
/-- fill -/
def flA (v : Int) (n : Nat) (f : Int → Int) : Int → Int := fun j => if 0 ≤ j ∧ j < (n : Int) then v else f j
theorem m_fill {zz : Nat → Nat} {a n : Nat} {v : Int} {h : AH} {Q : AH → Prop} (k : hkd h a = (1, n)) (hlo1 : hlo h ≤ a) (hn1 : (n : Int) ≤ 2147483647) (q : Q (saI h a (flA v n (haI h a)))) : w_J7_fill_53178 zz a v h Q := by
  unfold w_J7_fill_53178
  refine ⟨n, k, ?_⟩
  intro x hx
  subst hx
  refine ⟨fun m x h' => ∃ j : Nat, j ≤ n ∧ m = n - j ∧ x = (j : Int) ∧ h' = saI h a (fun i => if 0 ≤ i ∧ i < (j : Int) then v else haI h a i), ⟨n, 0, by omega, by omega, rfl, ?_⟩, ?_⟩
  · have e : (fun i : Int => if 0 ≤ i ∧ i < ((0 : Nat) : Int) then v else haI h a i) = haI h a := by
      funext i; rw [if_neg (by omega)]
    rw [e, saI_self]
  · rintro m x h' ⟨j, h1, h2, h3, h4⟩
    subst h3
    refine ⟨fun hc => ?_, fun hc => ?_⟩
    · obtain rfl : j = n := by omega
      rw [h4]; exact q
    · refine ⟨?_, ?_⟩
      · rw [h4]; exact ⟨n, k, by omega, by omega, hlo1⟩
      · intro h13 e13
        refine ⟨by unfold inR; omega, ?_⟩
        intro x2 e2
        refine ⟨n - (j + 1), by omega, j + 1, by omega, by omega, by omega, ?_⟩
        rw [e13, h4, saI_saI, haI_saI, if_pos rfl]
        congr 1
        funext i
        rw [u1_apply]
        by_cases hi : i = (j : Int)
        · rw [if_pos hi, if_pos (by omega)]
        · rw [if_neg hi]
          by_cases h5 : 0 ≤ i ∧ i < (j : Int)
          · rw [if_pos h5, if_pos (by omega)]
          · rw [if_neg h5, if_neg (by omega)]
