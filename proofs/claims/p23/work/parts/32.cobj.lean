/-! THE PURE LAYER, 16: the class's object at x; what it holds; save -/
/-- nothing changed but cells in [a, b), and new cells -/
def Ga (h h' : AH) (a b : Nat) : Prop := hkd h' = hkd h ∧ hlo h' = hlo h ∧ hn h ≤ hn h' ∧ ∀ q, (q < a ∨ b ≤ q) → hfI h' q = hfI h q ∧ hfR h' q = hfR h q ∧ hfL h' q = hfL h q ∧ haI h' q = haI h q ∧ haR h' q = haR h q ∧ haL h' q = haL h q
theorem Ga.refl (h : AH) (a b : Nat) : Ga h h a b := ⟨rfl, rfl, Nat.le_refl _, fun _ _ => ⟨rfl, rfl, rfl, rfl, rfl, rfl⟩⟩
theorem Ga.trans {h h1 h2 : AH} {a b : Nat} (x : Ga h h1 a b) (y : Ga h1 h2 a b) : Ga h h2 a b := ⟨y.1.trans x.1, y.2.1.trans x.2.1, Nat.le_trans x.2.2.1 y.2.2.1, fun q hq => by
  obtain ⟨x1, x2, x3, x4, x5, x6⟩ := x.2.2.2 q hq
  obtain ⟨y1, y2, y3, y4, y5, y6⟩ := y.2.2.2 q hq
  exact ⟨y1.trans x1, y2.trans x2, y3.trans x3, y4.trans x4, y5.trans x5, y6.trans x6⟩⟩
theorem Fr.ga {h h' : AH} {a b c d : Nat} (x : Fr h h' a b) (h1 : c ≤ a) (h2 : b ≤ d) : Ga h h' c d := ⟨x.kd, x.lo, by rw [x.n]; exact Nat.le_refl _, fun q hq => ⟨x.fi (by omega), by rw [x.rf], by rw [x.1.2.2.2.2.1], x.ai (by omega), by rw [x.ar], by rw [x.1.2.2.2.2.2]⟩⟩
theorem Ga.sfR {h : AH} {a b q k : Nat} {v : Option Nat} (h1 : a ≤ q) (h2 : q < b) : Ga h (sfR h q k v) a b := ⟨rfl, rfl, Nat.le_refl _, fun r hr => ⟨rfl, by
  show u0 (hfR h) q _ r = _
  rw [u0_n (by omega)], rfl, rfl, rfl, rfl⟩⟩
theorem Ga.saR {h : AH} {a b q : Nat} {f : Int → Option Nat} (h1 : a ≤ q) (h2 : q < b) : Ga h (saR h q f) a b := ⟨rfl, rfl, Nat.le_refl _, fun r hr => ⟨rfl, rfl, rfl, rfl, by rw [haR_saR, if_neg (by omega)], rfl⟩⟩
theorem Ga.gb {h : AH} {k a b : Nat} : Ga h (nGb h k) a b := ⟨rfl, rfl, by show hn h ≤ hn h + k; omega, fun _ _ => ⟨rfl, rfl, rfl, rfl, rfl, rfl⟩⟩
/-- texts and settings; saved ones; their number; the buffer -/
abbrev D3 : Type := (Nat → Int) × (Nat → Int) × (Nat → Int)
abbrev DT : Type := D3 × (Nat → D3) × Nat × (Nat → Int) × Nat
def GD (d : D3) : Prop := GC d.1 ∧ GC d.2.1 ∧ GS d.2.2
def dsv (D : DT) : DT := if D.2.2.1 = 6 then (D.1, fun i => if i = 5 then D.1 else D.2.1 (i + 1), 6, D.2.2.2) else (D.1, fun i => if i = D.2.2.1 then D.1 else D.2.1 i, D.2.2.1 + 1, D.2.2.2)
theorem SK.cong {h h' : AH} {s t0 t1 : Nat} (T : SK h s t0 t1) (e1 : hkd h' = hkd h) (e2 : hlo h' = hlo h) (e3 : hfR h' s = hfR h s) : SK h' s t0 t1 := by unfold SK at *; rw [e1, e2, e3]; exact T
theorem Tk.cong {h h' : AH} {t : Nat} (T : Tk h t) (e1 : hkd h' = hkd h) (e2 : hlo h' = hlo h) (e3 : hfR h' t = hfR h t) : Tk h' t := by unfold Tk at *; rw [e1, e2, e3]; exact T
theorem BK.cong {h h' : AH} {t : Nat} (T : BK h t) (e1 : hkd h' = hkd h) (e2 : hlo h' = hlo h) (e3 : hfR h' t = hfR h t) : BK h' t := by unfold BK at *; rw [e1, e2, e3]; exact T
theorem PK.cong {h h' : AH} {s : Nat} (T : PK h s) (e1 : hkd h' = hkd h) (e3 : hfR h' (s + 14) = hfR h (s + 14)) : PK h' s := by unfold PK at *; rw [e1, e3]; exact T
theorem MvK.cong {h h' : AH} {s : Nat} (T : MvK h s) (e1 : hkd h' = hkd h) (e3 : hfR h' (s + 21) = hfR h (s + 21)) : MvK h' s := by unfold MvK at *; rw [e1, e3]; exact T
theorem MoK.cong {h h' : AH} {s : Nat} (T : MoK h s) (e1 : hkd h' = hkd h) (e3 : hfR h' (s + 8) = hfR h (s + 8)) : MoK h' s := by unfold MoK at *; rw [e1, e3]; exact T
/-- kinds and references of the object, that never change -/
def TKs (h : AH) (x : Nat) : Prop := hkd h x = (10, 0) ∧ hfR h x 0 = some (x + 1) ∧ hfR h x 1 = some (x + 9) ∧ hfR h x 2 = some (x + 31) ∧ hfR h x 3 = some (x + 39) ∧ hfR h x 4 = some (x + 61) ∧ hfR h x 5 = some (x + 62) ∧ hkd h (x + 61) = (3, 6) ∧ hlo h ≤ x ∧ BK h (x + 62) ∧ (SK h (x + 31) (x + 33) (x + 36) ∧ Tk h (x + 33) ∧ Tk h (x + 36)) ∧ (PK h (x + 1) ∧ MvK h (x + 1) ∧ MoK h (x + 1)) ∧ (PK h (x + 31) ∧ MvK h (x + 31) ∧ MoK h (x + 31)) ∧ ∀ i, i < 6 → SK h (x + 65 + 8 * i) (x + 65 + 8 * i + 2) (x + 65 + 8 * i + 5) ∧ Tk h (x + 65 + 8 * i + 2) ∧ Tk h (x + 65 + 8 * i + 5)
theorem TKs.cong {h h' : AH} {x : Nat} (T : TKs h x) (e1 : hkd h' = hkd h) (e2 : hlo h' = hlo h) (e3 : ∀ q, q ≠ x + 1 → hfR h' q = hfR h q) : TKs h' x := by
  obtain ⟨t1, t2, t3, t4, t5, t6, t7, t8, t9, t10, t11, t12, t13, t14⟩ := T
  refine ⟨by rw [e1]; exact t1, by rw [e3 x (by omega)]; exact t2, by rw [e3 x (by omega)]; exact t3, by rw [e3 x (by omega)]; exact t4, by rw [e3 x (by omega)]; exact t5, by rw [e3 x (by omega)]; exact t6, by rw [e3 x (by omega)]; exact t7, by rw [e1]; exact t8, by rw [e2]; exact t9, t10.cong e1 e2 (e3 _ (by omega)), ⟨t11.1.cong e1 e2 (e3 _ (by omega)), t11.2.1.cong e1 e2 (e3 _ (by omega)), t11.2.2.cong e1 e2 (e3 _ (by omega))⟩, ⟨t12.1.cong e1 (e3 _ (by omega)), t12.2.1.cong e1 (e3 _ (by omega)), t12.2.2.cong e1 (e3 _ (by omega))⟩, ⟨t13.1.cong e1 (e3 _ (by omega)), t13.2.1.cong e1 (e3 _ (by omega)), t13.2.2.cong e1 (e3 _ (by omega))⟩, fun i hi => ?_⟩
  obtain ⟨u1, u2, u3⟩ := t14 i hi
  exact ⟨u1.cong e1 e2 (e3 _ (by omega)), u2.cong e1 e2 (e3 _ (by omega)), u3.cong e1 e2 (e3 _ (by omega))⟩
theorem TKs.fr {h h' : AH} {a b x : Nat} (T : TKs h x) (F : Fr h h' a b) : TKs h' x := T.cong F.kd F.lo (fun q _ => by rw [F.rf])
def SvR (h : AH) (x : Nat) (pm : Nat → Nat) (sv : Nat → D3) (n : Nat) : Prop := (∀ i : Nat, i < 6 → pm i < 6 ∧ haR h (x + 61) i = some (x + 65 + 8 * pm i)) ∧ (∀ i j, i < 6 → j < 6 → pm i = pm j → i = j) ∧ ∀ i, i < n → St h (x + 65 + 8 * pm i) (x + 65 + 8 * pm i + 2) (x + 65 + 8 * pm i + 5) (sv i).1 (sv i).2.1 (sv i).2.2 ∧ GD (sv i)
/-- what the object at x holds -/
def CR (h : AH) (zz : Nat → Nat) (x : Nat) (D : DT) : Prop := TKs h x ∧ Zs h zz ∧ (∃ t0 t1, St h (x + 1) t0 t1 D.1.1 D.1.2.1 D.1.2.2) ∧ GD D.1 ∧ BR h (x + 62) D.2.2.2.1 D.2.2.2.2 ∧ hfI h x 6 = (D.2.2.1 : Int) ∧ D.2.2.1 ≤ 6 ∧ (∃ pm, SvR h x pm D.2.1 D.2.2.1) ∧ (hfI h x 7 = 1 ∨ hfI h x 7 = 0 ∧ ∃ F, WR h (x + 1) D.1.1 D.1.2.1 D.1.2.2 F)
theorem SvR.fr {h h' : AH} {a b x n : Nat} {pm : Nat → Nat} {sv : Nat → D3} (T : SvR h x pm sv n) (hn6 : n ≤ 6) (F : Fr h h' a b) (hr : b ≤ x + 65 ∨ x + 113 ≤ a) : SvR h' x pm sv n := by
  obtain ⟨T1, T2, T3⟩ := T
  refine ⟨fun i hi => by rw [F.ar]; exact T1 i hi, T2, fun i hi => ⟨(T3 i hi).1.fr F ?_, (T3 i hi).2⟩⟩
  have := (T1 i (by omega)).1
  omega
theorem BR.fr {h h' : AH} {a b q len : Nat} {buf : Nat → Int} (T : BR h q buf len) (F : Fr h h' a b) (hr : q + 1 < a ∨ b ≤ q) : BR h' q buf len := by
  obtain ⟨T1, T2, T3⟩ := T
  exact ⟨by rw [F.fi (by omega)]; exact T1, T2, fun k hk => by rw [F.ai (by omega)]; exact T3 k hk⟩
theorem Zs.cong {h h' : AH} {zz : Nat → Nat} (Z : Zs h zz) (e1 : hkd h' = hkd h) (e2 : hlo h' = hlo h) (e3 : ∀ q, q < hlo h → haI h' q = haI h q) : Zs h' zz := by
  obtain ⟨Z1, Z2, Z3, Z4⟩ := Z
  refine ⟨fun k hk => by rw [e1, e2]; exact Z1 k hk, fun k hk => ?_, fun k hk => ?_, fun k hk => ?_⟩
  · rw [e3 _ (Z1 0 (by omega)).2]; exact Z2 k hk
  · rw [e3 _ (Z1 1 (by omega)).2]; exact Z3 k hk
  · rw [e3 _ (Z1 2 (by omega)).2]; exact Z4 k hk
theorem saR_saR {h : AH} {a : Nat} {f g : Int → Option Nat} : saR (saR h a f) a g = saR h a g := by
  show (h.1, hkd h, hfI h, hfR h, hfL h, haI h, u0 (u0 (haR h) a f) a g, haL h) = (h.1, hkd h, hfI h, hfR h, hfL h, haI h, u0 (haR h) a g, haL h)
  have e : u0 (u0 (haR h) a f) a g = u0 (haR h) a g := by
    funext q; unfold u0; split <;> rfl
  rw [e]
theorem saR_self {h : AH} {a : Nat} : saR h a (haR h a) = h := by
  show (h.1, hkd h, hfI h, hfR h, hfL h, haI h, u0 (haR h) a (haR h a), haL h) = h
  have e : u0 (haR h) a (haR h a) = haR h := by
    funext q; unfold u0; split
    next h1 => rw [h1]
    next => rfl
  rw [e]; rfl
set_option maxHeartbeats 2000000 in
/-- save: the state as it is becomes the youngest saved one; what is known of the frames is stale -/
theorem m_save {zz : Nat → Nat} {x : Nat} {h : AH} {Q : AH → Prop} {D : DT} (C : CR h zz x D) (q : ∀ h' : AH, Ga h h' x (x + 113) → CR h' zz x (dsv D) → hfI h' x 7 = 1 → haI h' (x + 64) = haI h (x + 64) → Q h') : w_X6_save zz x h Q := by
  obtain ⟨T, Z, ⟨t0, t1, S⟩, G, B, n1, n2, ⟨pm, V⟩, -⟩ := C
  have T0 := T
  obtain ⟨tk, f0, f1, f2, f3, f4, f5, ka, lo, bk, -⟩ := T
  -- the copy, once there is room
  have copy : ∀ (g : AH) (pm' : Nat → Nat) (sv' : Nat → D3) (n : Nat), n < 6 → Ga h g x (x + 113) → TKs g x → Zs g zz → St g (x + 1) t0 t1 D.1.1 D.1.2.1 D.1.2.2 → BR g (x + 62) D.2.2.2.1 D.2.2.2.2 → hfI g x 6 = (n : Int) → SvR g x pm' sv' n → haI g (x + 64) = haI h (x + 64) → (dsv D = (D.1, fun i => if i = n then D.1 else sv' i, n + 1, D.2.2.2) ∨ ∀ h' : AH, Ga h h' x (x + 113) → CR h' zz x (D.1, fun i => if i = n then D.1 else sv' i, n + 1, D.2.2.2) → hfI h' x 7 = 1 → haI h' (x + 64) = haI h (x + 64) → Q h') → okA g x 6 ∧ ∃ b57 : Nat, hfR g x 4 = some b57 ∧ okA g x 6 ∧ okQ g b57 (hfI g x 6) ∧ ∃ b64 : Nat, haR g b57 (hfI g x 6) = some b64 ∧ okA g x 6 ∧ ∃ b66 : Nat, hfR g x 0 = some b66 ∧ okA g b64 4 ∧ w_X4_copyFrom zz b64 b66 g (fun  (h69 : AH) => okA h69 x 6 ∧ inR ((hfI h69 x 6) + (1 : Int)) ∧ okP h69 x 6 ∧ ∀ h79 : AH, h79 = sfI h69 x 6 ((hfI h69 x 6) + (1 : Int)) → okP h79 x 6 ∧ ((1 : Int) = 0 ∨ (1 : Int) = 1) ∧ ∀ h84 : AH, h84 = sfI h79 x 7 (1 : Int) → Q h84) := by
    intro g pm' sv' n hn Gg Tg Zg Sg Bg ng Vg Cg hQ
    have Tg0 := Tg
    obtain ⟨tk, f0, f1, f2, f3, f4, f5, ka, lo, bk, -, -, -, tsv⟩ := Tg
    obtain ⟨v1, v2⟩ := Vg.1 n hn
    obtain ⟨s1, s2, s3⟩ := tsv _ v1
    refine ⟨by rw [okA_of tk], x + 61, f4, by rw [okA_of tk], ?_⟩
    rw [okQ_of ka, ng]
    refine ⟨⟨by omega, by omega⟩, _, v2, by rw [okA_of tk], x + 1, f0, by rw [okA_of s1.1], ?_⟩
    refine m_scopy s1 s2 s3 Sg G.1.2 G.2.1.2 (by omega) (fun g1 F1 S1 => ?_)
    have T1 := Tg0.fr F1
    have Z1 := Zg.fr F1 (by omega)
    have SS1 := Sg.fr F1 (by omega)
    have B1 := Bg.fr F1 (by omega)
    have n1' : hfI g1 x 6 = (n : Int) := by rw [F1.fi (by omega)]; exact ng
    rw [n1']
    refine ⟨by rw [okA_of T1.1], by unfold inR; omega, by rw [okP_of T1.1]; exact ⟨rfl, T1.2.2.2.2.2.2.2.2.1⟩, ?_⟩
    intro g2 e2
    have F2 : Fr g1 g2 x (x + 1) := by rw [e2]; exact Fr.sf (by omega) (by omega)
    have T2 := T1.fr F2
    refine ⟨by rw [okP_of T2.1]; exact ⟨rfl, T2.2.2.2.2.2.2.2.2.1⟩, .inr rfl, ?_⟩
    intro g3 e3
    have F3 : Fr g1 g3 x (x + 1) := by rw [e3]; exact F2.tsf (by omega) (by omega)
    have y6 : hfI g3 x 6 = ((n + 1 : Nat) : Int) := by
      rw [e3, e2, hfI_sfI, if_pos rfl, if_neg (by omega), hfI_sfI, if_pos rfl, if_pos rfl]; omega
    have y7 : hfI g3 x 7 = 1 := by rw [e3, hfI_sfI, if_pos rfl, if_pos rfl]
    have hx : x + 1 ≤ x + 65 + 8 * pm' n := by omega
    have C3 : CR g3 zz x (D.1, fun i => if i = n then D.1 else sv' i, n + 1, D.2.2.2) := by
      refine ⟨T1.fr F3, Z1.fr F3 (by have := T1.2.2.2.2.2.2.2.2.1; omega), ⟨t0, t1, SS1.fr F3 (by omega)⟩, G, B1.fr F3 (by omega), y6, by show n + 1 ≤ 6; omega, ⟨pm', fun i hi => ?_, Vg.2.1, fun i hi => ?_⟩, .inl y7⟩
      · rw [F3.ar, F1.ar]; exact Vg.1 i hi
      · have hi : i < n + 1 := hi
        by_cases e : i = n
        · subst e
          show St g3 _ _ _ (if i = i then D.1 else sv' i).1 (if i = i then D.1 else sv' i).2.1 (if i = i then D.1 else sv' i).2.2 ∧ GD (if i = i then D.1 else sv' i)
          rw [if_pos rfl]
          exact ⟨S1.fr F3 (by omega), G⟩
        · show St g3 _ _ _ (if i = n then D.1 else sv' i).1 (if i = n then D.1 else sv' i).2.1 (if i = n then D.1 else sv' i).2.2 ∧ GD (if i = n then D.1 else sv' i)
          rw [if_neg e]
          obtain ⟨a1, a2⟩ := Vg.2.2 i (by omega)
          have p1 := (Vg.1 i (by omega)).1
          have p2 : pm' i ≠ pm' n := fun h => e (Vg.2.1 i n (by omega) hn h)
          exact ⟨(a1.fr F1 (by omega)).fr F3 (by omega), a2⟩
    have GG : Ga h g3 x (x + 113) := (Gg.trans (F1.ga (by omega) (by omega))).trans (F3.ga (by omega) (by omega))
    have c64 : haI g3 (x + 64) = haI h (x + 64) := by rw [F3.ai (by omega), F1.ai (by omega)]; exact Cg
    rcases hQ with e | hQ
    · rw [← e] at C3
      exact q g3 GG C3 y7 c64
    · exact hQ g3 GG C3 y7 c64
  unfold w_X6_save
  refine ⟨by rw [okA_of tk], ?_⟩
  rw [jn_def, n1]
  refine ⟨fun hlt => ?_, fun hge => ?_⟩
  · refine copy h pm D.2.1 D.2.2.1 (by omega) (Ga.refl _ _ _) T0 Z S B n1 V rfl (.inl ?_)
    unfold dsv; rw [if_neg (by omega)]
  · have h6 : D.2.2.1 = 6 := by omega
    have v0 := V.1 0 (by omega)
    have v0' : haR h (x + 61) (0 : Int) = some (x + 65 + 8 * pm 0) := v0.2
    refine ⟨by rw [okA_of tk], x + 61, f4, ?_⟩
    rw [okQ_of ka]
    refine ⟨⟨by omega, by omega⟩, _, v0', ?_⟩
    obtain ⟨I, hI⟩ : ∃ I : Nat → Int → AH → Prop, ∀ m y h', I m y h' ↔ ∃ (k : Nat) (f : Int → Option Nat), 1 ≤ k ∧ k ≤ 6 ∧ m = 6 - k ∧ y = (k : Int) ∧ h' = saR h (x + 61) f ∧ ∀ j : Nat, j < 6 → f j = if j + 1 < k then some (x + 65 + 8 * pm (j + 1)) else some (x + 65 + 8 * pm j) := ⟨_, fun _ _ _ => Iff.rfl⟩
    refine ⟨I, ⟨5, (hI _ _ _).mpr ⟨1, haR h (x + 61), by omega, by omega, rfl, rfl, saR_self.symm, fun j hj => ?_⟩⟩, ?_⟩
    · rw [if_neg (by omega)]; exact (V.1 j hj).2
    intro m y h' hi9
    obtain ⟨k, f, hk1, hk2, rfl, rfl, rfl, Df⟩ := (hI _ _ _).mp hi9
    refine ⟨fun hc => ?_, fun hc => ?_⟩
    · obtain rfl : k = 6 := by omega
      refine ⟨by rw [okA_of (show hkd (saR h _ _) x = _ from tk)], x + 61, f4, ?_⟩
      rw [okU_of (show hkd (saR h _ _) (x + 61) = _ from ka)]
      refine ⟨⟨by omega, by omega, by show hlo h ≤ _; omega⟩, ?_, ?_⟩
      · have := (T0.2.2.2.2.2.2.2.2.2.2.2.2.2 _ v0.1).1.1
        rw [okA_of (show hkd (saR h _ _) (x + 65 + 8 * pm 0) = _ from this)]
      intro g1 e1
      rw [haR_saR, if_pos rfl, saR_saR] at e1
      refine ⟨by rw [e1, okP_of (show hkd (saR h _ _) x = _ from tk)]; exact ⟨rfl, lo⟩, ?_⟩
      intro g e2
      have eh : hkd g = hkd h := by rw [e2, e1]; rfl
      have el : hlo g = hlo h := by rw [e2, e1]; rfl
      have er : hfR g = hfR h := by rw [e2, e1]; rfl
      have ea : haI g = haI h := by rw [e2, e1]; rfl
      have ei : ∀ q, q ≠ x → hfI g q = hfI h q := fun q hq => by
        rw [e2, e1]
        show u0 (hfI h) x _ q = _
        rw [u0_n hq]
      have GG : Ga h g x (x + 113) := by
        rw [e2, e1]
        exact (Ga.saR (by omega) (by omega)).trans ((Fr.sf (a := x) (b := x + 1) (by omega) (by omega)).ga (by omega) (by omega))
      have stm : ∀ s u0 u1 a b c, St h s u0 u1 a b c → x < s → St g s u0 u1 a b c := by
        intro s u0 u1 a b c Sx hs
        obtain ⟨s1, ⟨s2, s3, s4, s5⟩, ⟨s6, s7, s8, s9⟩, s10⟩ := Sx
        have hp := s1.2.2.2.2.2.2
        exact ⟨s1.cong eh el (by rw [er]), ⟨s2.cong eh el (by rw [er]), by rw [ea]; exact s3, by rw [ei _ (by omega)]; exact s4, by rw [ea]; exact s5⟩, ⟨s6.cong eh el (by rw [er]), by rw [ea]; exact s7, by rw [ei _ (by omega)]; exact s8, by rw [ea]; exact s9⟩, fun k hk => by rw [ea]; exact s10 k hk⟩
      refine copy g (fun i => if i = 5 then pm 0 else pm (i + 1)) (fun i => D.2.1 (i + 1)) 5 (by omega) GG (T0.cong eh el (fun q _ => by rw [er])) (Z.cong eh el (fun q _ => by rw [ea])) (stm _ _ _ _ _ _ S (by omega)) ⟨by rw [ei _ (by omega)]; exact B.1, B.2.1, fun k hk => by rw [ea]; exact B.2.2 k hk⟩ ?_ ⟨fun i hi => ?_, fun i j hi hj hij => ?_, fun i hi => ?_⟩ (by rw [ea]) (.inl ?_)
      · rw [e2, hfI_sfI, if_pos rfl, if_pos rfl]; rfl
      · have hr : haR g (x + 61) = u1 f 5 (some (x + 65 + 8 * pm 0)) := by
          rw [e2, e1, haR_sfI, haR_saR, if_pos rfl]
        rw [hr, u1_apply]
        by_cases e5 : i = 5
        · subst e5; exact ⟨v0.1, rfl⟩
        · rw [if_neg (by omega)]
          show (if i = 5 then pm 0 else pm (i + 1)) < 6 ∧ _ = some (x + 65 + 8 * (if i = 5 then pm 0 else pm (i + 1)))
          rw [if_neg e5, Df i hi, if_pos (by omega)]
          exact ⟨(V.1 (i + 1) (by omega)).1, rfl⟩
      · have hij : (if i = 5 then pm 0 else pm (i + 1)) = (if j = 5 then pm 0 else pm (j + 1)) := hij
        by_cases a5 : i = 5
        · by_cases b5 : j = 5
          · omega
          · rw [if_pos a5, if_neg b5] at hij
            have := V.2.1 0 (j + 1) (by omega) (by omega) hij; omega
        · by_cases b5 : j = 5
          · rw [if_neg a5, if_pos b5] at hij
            have := V.2.1 (i + 1) 0 (by omega) (by omega) hij; omega
          · rw [if_neg a5, if_neg b5] at hij
            have := V.2.1 (i + 1) (j + 1) (by omega) (by omega) hij; omega
      · show St g (x + 65 + 8 * (if i = 5 then pm 0 else pm (i + 1))) (x + 65 + 8 * (if i = 5 then pm 0 else pm (i + 1)) + 2) (x + 65 + 8 * (if i = 5 then pm 0 else pm (i + 1)) + 5) _ _ _ ∧ _
        rw [if_neg (by omega)]
        obtain ⟨a1, a2⟩ := V.2.2 (i + 1) (by omega)
        exact ⟨stm _ _ _ _ _ _ a1 (by omega), a2⟩
      · unfold dsv; rw [if_pos h6]
    · have hk9 : k < 6 := by omega
      have dk := Df k hk9
      rw [if_neg (by omega)] at dk
      refine ⟨by rw [okA_of (show hkd (saR h _ _) x = _ from tk)], x + 61, f4, by unfold inR; omega, by rw [okA_of (show hkd (saR h _ _) x = _ from tk)], x + 61, f4, ?_⟩
      rw [okQ_of (show hkd (saR h _ _) (x + 61) = _ from ka), okU_of (show hkd (saR h _ _) (x + 61) = _ from ka), haR_saR, if_pos rfl]
      refine ⟨⟨by omega, by omega⟩, _, dk, ⟨by omega, by omega, by show hlo h ≤ _; omega⟩, ?_, ?_⟩
      · have := (T0.2.2.2.2.2.2.2.2.2.2.2.2.2 _ (V.1 k hk9).1).1.1
        rw [okA_of (show hkd (saR h _ _) (x + 65 + 8 * pm k) = _ from this)]
      intro g e1
      refine ⟨by unfold inR; omega, ?_⟩
      intro z ez
      refine ⟨6 - (k + 1), by omega, (hI _ _ _).mpr ⟨k + 1, u1 f ((k : Int) - 1) (some (x + 65 + 8 * pm k)), by omega, by omega, rfl, by omega, by rw [e1, saR_saR], fun j hj => ?_⟩⟩
      rw [u1_apply]
      by_cases e : j + 1 = k
      · rw [if_pos (by omega), if_pos (by omega), e]
      · rw [if_neg (by omega), Df j hj]
        by_cases e2 : j + 1 < k
        · rw [if_pos e2, if_pos (by omega)]
        · rw [if_neg e2, if_neg (by omega)]
