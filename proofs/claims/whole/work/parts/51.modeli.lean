/-! THE PURE LAYER, 35: the model's best -/
theorem msw_j {n : Nat} {gl : Nat → Int} {w p : Int} {t : Nat} {z : MT} {j : Nat} : ∀ m, j < m → (msw n gl w p t z m).1 j = (mst n gl w p t (msw n gl w p t z j) j).1 j := by
  intro m
  induction m with
  | zero => intro h; omega
  | succ m ih =>
    intro h
    by_cases e : j = m
    · subst e; rfl
    · have := (mst_o (n := n) (gl := gl) (w := w) (p := p) (t := t) (z := msw n gl w p t z m) (k := m) (j := j) e).1
      exact this.trans (ih (by omega))
theorem rem_A {n : Nat} {gl s0 : Nat → Int} {w p : Int} (hp : 0 ≤ p ∧ p ≤ 9) (hg : ∀ k, k < n → gl k = -1 ∨ 0 ≤ gl k ∧ gl k < 80) (hs : ∀ k, k < n → 0 ≤ s0 k ∧ s0 k < 80) {j : Nat} (hj : j < n) : ∀ t : Nat, rem (s0 j) (gl j) ≤ rem ((mfr n gl s0 w p t).1 j) (gl j) + t := by
  intro t
  induction t with
  | zero => show rem (s0 j) (gl j) ≤ rem (s0 j) (gl j) + ((0 : Nat) : Int); omega
  | succ t ih =>
    have e : (mfr n gl s0 w p (t + 1)).1 j = _ := msw_j (n := n) (gl := gl) (w := w) (p := p) (t := t + 1) (z := mrs (mfr n gl s0 w p t)) n hj
    obtain ⟨u, hu⟩ : ∃ u, u = msw n gl w p (t + 1) (mrs (mfr n gl s0 w p t)) j := ⟨_, rfl⟩
    have u1 : u.1 j = (mfr n gl s0 w p t).1 j := by rw [hu]; exact (msw_o (n := n) (gl := gl) (w := w) (p := p) (t := t + 1) (z := mrs (mfr n gl s0 w p t)) j (Nat.le_refl _)).1
    have b := ((mfr_k (w := w) hp hg hs t).1 j hj).1
    rw [← u1] at ih b
    rw [← hu] at e
    rw [e]
    unfold mst
    split
    next g =>
      have hg' : 0 ≤ gl j ∧ gl j < 80 := by rcases hg j hj with h | h
                                            · exact absurd h g.1
                                            · exact h
      have nx := nxc_ok (w := w) b hg' g.2
      split
      · show _ ≤ rem (u.1 j) (gl j) + _; omega
      · show _ ≤ rem (un u.1 j (nxc w (u.1 j) (gl j)) j) (gl j) + _
        rw [un_s]; omega
    next g => omega
theorem rem_B {n : Nat} {gl s0 : Nat → Int} {w : Int} (hg : ∀ k, k < n → gl k = -1 ∨ 0 ≤ gl k ∧ gl k < 80) (hs : ∀ k, k < n → 0 ≤ s0 k ∧ s0 k < 80) {j : Nat} (hj : j < n) (hn : gl j ≠ -1) : ∀ t : Nat, (mfr n gl s0 w 0 t).1 j ≠ gl j → rem ((mfr n gl s0 w 0 t).1 j) (gl j) + t = rem (s0 j) (gl j) := by
  intro t
  induction t with
  | zero => intro _; show rem (s0 j) (gl j) + ((0 : Nat) : Int) = rem (s0 j) (gl j); omega
  | succ t ih =>
    have e : (mfr n gl s0 w 0 (t + 1)).1 j = _ := msw_j (n := n) (gl := gl) (w := w) (p := 0) (t := t + 1) (z := mrs (mfr n gl s0 w 0 t)) n hj
    obtain ⟨u, hu⟩ : ∃ u, u = msw n gl w 0 (t + 1) (mrs (mfr n gl s0 w 0 t)) j := ⟨_, rfl⟩
    have o := msw_o (n := n) (gl := gl) (w := w) (p := 0) (t := t + 1) (z := mrs (mfr n gl s0 w 0 t)) (j := j) j (Nat.le_refl _)
    have u1 : u.1 j = (mfr n gl s0 w 0 t).1 j := by rw [hu]; exact o.1
    have u2 : u.2.1 j = 0 := by rw [hu]; exact o.2.1.trans ((mfr_p0 t).1 j)
    have b := ((mfr_k (w := w) (p := 0) (by omega) hg hs t).1 j hj).1
    rw [← u1] at ih b
    rw [← hu] at e
    rw [e]
    have hg' : 0 ≤ gl j ∧ gl j < 80 := by rcases hg j hj with h | h
                                          · exact absurd h hn
                                          · exact h
    unfold mst
    split
    next g =>
      have nx := nxc_ok (w := w) b hg' g.2
      have i := ih g.2
      rw [if_neg (fun h => by have := h.2; omega)]
      show un u.1 j (nxc w (u.1 j) (gl j)) j ≠ gl j → rem (un u.1 j (nxc w (u.1 j) (gl j)) j) (gl j) + _ = _
      rw [un_s]
      intro _
      omega
    next g => intro h; exact absurd ⟨hn, h⟩ g
theorem best_min {n : Nat} {gl s0 : Nat → Int} {w0 w p : Int} {t0 F0 F : Nat} (hp : 0 ≤ p ∧ p ≤ 9) (hg : ∀ k, k < n → gl k = -1 ∨ 0 ≤ gl k ∧ gl k < 80) (hs : ∀ k, k < n → 0 ≤ s0 k ∧ s0 k < 80) (h0 : isF n gl s0 w0 0 t0 F0) (h1 : isF n gl s0 w p t0 F) : F0 ≤ F := by
  by_cases e : F0 ≤ F
  · exact e
  · obtain ⟨j, hj, g1, g2⟩ := cG_pos.mp (h0.2.2 F h1.1 (by omega))
    have b := ((mfr_k (w := w0) (p := 0) (by omega) hg hs F).1 j hj).1
    have hg' : 0 ≤ gl j ∧ gl j < 80 := by rcases hg j hj with h | h
                                          · exact absurd h g1
                                          · exact h
    have r1 := rem_B (w := w0) hg hs hj g1 F g2
    have r2 : rem ((mfr n gl s0 w0 0 F).1 j) (gl j) ≠ 0 := fun h => g2 (rem_0 h)
    have r3 := (rem_bd b hg').1
    have r4 := rem_A (w := w) hp hg hs hj F
    have e2 : (mfr n gl s0 w p F).1 j = gl j := by
      by_cases e : (mfr n gl s0 w p F).1 j = gl j
      · exact e
      · exact absurd h1.2.1 (Nat.ne_of_gt (cG_pos.mpr ⟨j, hj, g1, e⟩))
    have e3 : rem (gl j) (gl j) = 0 := by
      unfold rem ab1
      rw [show gl j % 16 - gl j % 16 = 0 by omega, show gl j / 16 - gl j / 16 = 0 by omega]; rfl
    rw [e2, e3] at r4
    omega
theorem d_framesM {zz : Nat → Nat} {y F : Nat} {h : AH} {Q : Int → AH → Prop} {c0 c1 st s2 : Nat → Int} (V : MV0 h y c0 c1 s2) (P : MP h y c0 c1 (prA c0 c1 st)) (e6 : s2 6 = st 6) (e7 : s2 7 = st 7) (M1 : hfI h y 12 = (F : Int)) (hF : F ≤ 190) (q : Q (nFr c0 c1 st F) h) : w_X7_frames zz y h Q := by
  have h0 := V.2.2.2.1.n
  have h1 := V.2.2.2.2.1.n
  have g6 := V.2.2.2.2.2.2.2.2.2.2.2.1
  have g7 := V.2.2.2.2.2.2.2.2.2.2.2.2
  rw [e6] at g6
  rw [e7] at g7
  have K := V.1
  have cl0 := cK_le (f := kfA c0 c1 st) (n := Nc c0) (v := 4)
  have sb : 0 ≤ sti c0 c1 st ∧ sti c0 c1 st ≤ 60 := by unfold sti; omega
  have cl := cK_le (f := ksA c0 c1 st) (n := Nc c1) (v := 5)
  unfold nFr at q
  unfold w_X7_frames
  refine ⟨by rw [okA_of K.1], d_firstMoving V P e6 ?_⟩
  rw [M1]
  refine ⟨by rw [okA_of K.1], by unfold inR; omega, by rw [okA_of K.1], d_ofKind1 V P ?_⟩
  show inR ((1 + sti c0 c1 st) + (F : Int) + (cK (ksA c0 c1 st) (Nc c1) 5 : Int)) ∧ okA h y 7 ∧ w_X7_of zz y (7 : Int) h (fun (r19 : Int) (h19 : AH) => inR (((1 + sti c0 c1 st) + (F : Int) + (cK (ksA c0 c1 st) (Nc c1) 5 : Int)) + r19) ∧ Q (((1 + sti c0 c1 st) + (F : Int) + (cK (ksA c0 c1 st) (Nc c1) 5 : Int)) + r19) h19)
  refine ⟨by unfold inR; omega, by rw [okA_of K.1], d_of K V.2.1 (by omega) ?_⟩
  have e : s2 (7 : Int).toNat = st 7 := e7
  rw [e]
  exact ⟨by unfold inR; omega, q⟩
/-- changed: the moving's number, the row of numbers, and arrays from y + 10 to y + 16 -/
def Lb (h h' : AH) (y : Nat) : Prop := Fr h h' y (y + 16) ∧ (∀ q, q ≠ y + 1 → q < y + 10 → haI h' q = haI h q) ∧ (∀ f, f ≠ 12 → hfI h' y f = hfI h y f)
theorem Lb.refl (h : AH) (y : Nat) : Lb h h y := ⟨Fr.refl _ _ _, fun _ _ _ => rfl, fun _ _ => rfl⟩
theorem Lb.trans {h g k : AH} {y : Nat} (a : Lb h g y) (b : Lb g k y) : Lb h k y := ⟨a.1.trans b.1, fun q h1 h2 => (b.2.1 q h1 h2).trans (a.2.1 q h1 h2), fun f hf => (b.2.2 f hf).trans (a.2.2 f hf)⟩
theorem Lf.lb {h g : AH} {y c : Nat} (a : Lf h g y c) (hc : y + 10 ≤ c) : Lb h g y := ⟨a.1, fun q _ h2 => a.2.1 q (by omega), a.2.2⟩
theorem Lb.z {h : AH} {y : Nat} {f : Int → Int} : Lb h (saI h (y + 1) f) y := ⟨Fr.sa (by omega) (by omega), fun q h1 _ => by rw [haI_saI, if_neg h1], fun _ _ => rfl⟩
theorem ZR.set {h : AH} {y i : Nat} {v : Int} {c0 c1 st : Nat → Int} (Z : ZR h y c0 c1 st) (hi : i < 8) {s : Int} (hs : s = 160 + (i : Int)) : ZR (saI h (y + 1) (u1 (haI h (y + 1)) s v)) y c0 c1 (un st i v) := by
  intro k hk
  rw [haI_saI, if_pos rfl, u1_apply, Z k hk]
  unfold zA
  by_cases e : k = 160 + i
  · rw [if_pos (by omega), if_neg (by omega), if_neg (by omega), show k - 160 = i by omega, un_s]
  · rw [if_neg (by omega)]
    by_cases h1 : k < 80
    · rw [if_pos h1, if_pos h1]
    · rw [if_neg h1, if_neg h1]
      by_cases h2 : k < 160
      · rw [if_pos h2, if_pos h2]
      · rw [if_neg h2, if_neg h2, un_n (by omega)]
theorem un2 {st : Nat → Int} {a b a' b' : Int} : un (un (un (un st 4 a) 5 b) 4 a') 5 b' = un (un st 4 a') 5 b' := by
  funext k
  unfold un
  by_cases h5 : k = 5
  · rw [if_pos h5, if_pos h5]
  · rw [if_neg h5, if_neg h5]
    by_cases h4 : k = 4
    · rw [if_pos h4, if_pos h4, if_neg h5]
    · rw [if_neg h4, if_neg h4, if_neg h5, if_neg h4]
theorem un0 {st : Nat → Int} : un (un st 4 (st 4)) 5 (st 5) = st := by
  funext k
  unfold un
  by_cases h5 : k = 5
  · rw [if_pos h5, h5]
  · rw [if_neg h5]
    by_cases h4 : k = 4
    · rw [if_pos h4, h4]
    · rw [if_neg h4]
theorem GS2 {st : Nat → Int} (g : GS st) {a b : Int} (ha : 0 ≤ a ∧ a ≤ 2) (hb : 0 ≤ b ∧ b ≤ 9) : GS (un (un st 4 a) 5 b) := GS_un (GS_un g (by omega) (by unfold lowV topV; simp; omega)) (by omega) (by unfold lowV topV; simp; omega)
set_option maxHeartbeats 4000000 in
theorem d_bestNow {zz : Nat → Nat} {y F : Nat} {h : AH} {Q : Int → AH → Prop} {c0 c1 st : Nat → Int} (M : MLy h y c0 c1 st F) (q : ∀ h' : AH, Lb h h' y → ZR h' y c0 c1 st → Q 0 h') : w_X7_bestNow zz y h Q := by
  have ⟨sb, h0, h1, hF, nb⟩ := M.bd
  obtain ⟨V, P, Mf, iF⟩ := M
  have gs := V.2.2.2.2.2
  have K := V.1
  have glb : ∀ k, k < Nc c0 → glM c0 c1 st k = -1 ∨ 0 ≤ glM c0 c1 st k ∧ glM c0 c1 st k < 80 := by
    intro k hk
    rcases glA_ok (c1 := c1) (pw_A (c0 := c0) (c1 := c1) (st := st)) k hk with h | h
    · exact .inl h.1
    · exact .inr h.1
  have s0b : ∀ k, k < Nc c0 → 0 ≤ s0M c0 k ∧ s0M c0 k < 80 := fun k hk => by
    have := Lc_lt hk
    show 0 ≤ (Lc c0 k : Int) ∧ (Lc c0 k : Int) < 80
    omega
  unfold w_X7_bestNow
  refine ⟨by rw [okA_of K.1], d_of K V.2.1 (by omega) ⟨by rw [okA_of K.1], d_of K V.2.1 (by omega) ?_⟩⟩
  have e4 : st (4 : Int).toNat = st 4 := rfl
  have e5 : st (5 : Int).toNat = st 5 := rfl
  rw [e4, e5]
  obtain ⟨t0, ht0⟩ : ∃ t0 : Nat, t0 = if 0 < cK (kfA c0 c1 st) (Nc c0) 3 then 1 else 0 := ⟨_, rfl⟩
  obtain ⟨I, hI⟩ : ∃ I : Nat → Int → Int → Int → Int → AH → Prop, ∀ m x3 x4 x5 x6 h', I m x3 x4 x5 x6 h' ↔ ∃ k : Nat, k ≤ 30 ∧ m = 30 - k ∧ x6 = (k : Int) ∧ Lb h h' y ∧ (∃ a b : Int, (0 ≤ a ∧ a ≤ 2) ∧ (0 ≤ b ∧ b ≤ 9) ∧ ZR h' y c0 c1 (un (un st 4 a) 5 b)) ∧ (k = 0 ∧ x3 = -1 ∨ 1 ≤ k ∧ x3 = 0 ∧ x5 = 0 ∧ ∃ F0 : Nat, x4 = nFr c0 c1 st F0 ∧ ∀ (w p : Int) (F : Nat), 0 ≤ p ∧ p ≤ 9 → isF (Nc c0) (glM c0 c1 st) (s0M c0) w p t0 F → F0 ≤ F) := ⟨_, fun _ _ _ _ _ _ => Iff.rfl⟩
  refine ⟨I, ⟨30, (hI _ _ _ _ _ _).mpr ⟨0, by omega, rfl, rfl, Lb.refl _ _, ⟨st 4, st 5, gs.2.2.2.2.1, gs.2.2.2.2.2.1, by rw [un0]; exact V.2.1⟩, .inl ⟨rfl, rfl⟩⟩⟩, ?_⟩
  intro m x3 x4 x5 x6 g hi9
  obtain ⟨k, hk, rfl, rfl, L, ⟨a, b, ha, hb, Z⟩, B⟩ := (hI _ _ _ _ _ _).mp hi9
  have Kg := K.fr L.1
  have kk := Kg
  have lg : ML g y c0 c1 := by
    have l := V.2.2.1
    unfold ML at *
    rw [L.2.1 (y + 4) (by omega) (by omega), L.2.1 (y + 5) (by omega) (by omega), L.2.1 (y + 6) (by omega) (by omega)]; exact l
  have Pg : MP g y c0 c1 (prA c0 c1 st) := by
    unfold MP at *
    rw [L.2.1 (y + 7) (by omega) (by omega), L.2.1 (y + 8) (by omega) (by omega)]; exact P
  refine ⟨fun hc => ?_, fun hc => ?_⟩
  · obtain rfl : x3 = 0 := by
      rcases B with B | B
      · have := B.1; omega
      · exact B.2.1
    refine ⟨by rw [okA_of Kg.1], y + 1, Kg.2.2.2.1, by rw [okW_of Kg.2.2.1.1]; have := Kg.2.1; omega, ?_⟩
    intro g1 eg1
    have L1 : Lb g g1 y := by rw [eg1]; exact Lb.z
    have K1 := Kg.fr L1.1
    refine ⟨by rw [okA_of K1.1], y + 1, K1.2.2.2.1, by rw [okW_of K1.2.2.1.1]; have := K1.2.1; omega, ?_⟩
    intro g2 eg2
    have L2 : Lb g1 g2 y := by rw [eg2]; exact Lb.z
    refine q g2 (L.trans (L1.trans L2)) ?_
    have z1 := Z.set (i := 4) (v := st 4) (by omega) (s := 164) (by omega)
    rw [← eg1] at z1
    have z2 := z1.set (i := 5) (v := st 5) (by omega) (s := 165) (by omega)
    rw [← eg2, un2, un0] at z2
    exact z2
  · refine ⟨by rw [okA_of Kg.1], y + 1, Kg.2.2.2.1, ⟨by omega, by omega⟩, by rw [okW_of Kg.2.2.1.1]; have := Kg.2.1; omega, ?_⟩
    intro g1 eg1
    have L1 : Lb g g1 y := by rw [eg1]; exact Lb.z
    have K1 := Kg.fr L1.1
    refine ⟨by rw [okA_of K1.1], y + 1, K1.2.2.2.1, ⟨by omega, by omega⟩, by rw [okW_of K1.2.2.1.1]; have := K1.2.1; omega, ?_⟩
    intro g2 eg2
    have L2 : Lb g1 g2 y := by rw [eg2]; exact Lb.z
    have K2 := K1.fr L2.1
    have Z2 : ZR g2 y c0 c1 (un (un st 4 ((k : Int) / 10)) 5 ((k : Int) % 10)) := by
      have z1 := Z.set (i := 4) (v := (k : Int) / 10) (by omega) (s := 164) (by omega)
      rw [← eg1] at z1
      have z2 := z1.set (i := 5) (v := (k : Int) % 10) (by omega) (s := 165) (by omega)
      rw [← eg2, un2] at z2
      exact z2
    have L12 := L1.trans L2
    obtain ⟨s2, hs2⟩ : ∃ s2, s2 = un (un st 4 ((k : Int) / 10)) 5 ((k : Int) % 10) := ⟨_, rfl⟩
    have G2 : GS s2 := by rw [hs2]; exact GS2 gs (by omega) (by omega)
    have s24 : s2 4 = (k : Int) / 10 := by rw [hs2, un_n (by omega), un_s]
    have s25 : s2 5 = (k : Int) % 10 := by rw [hs2, un_s]
    have s2o : ∀ j, j ≠ 4 → j ≠ 5 → s2 j = st j := fun j h4 h5 => by rw [hs2, un_n h5, un_n h4]
    rw [← hs2] at Z2
    have V2 : MV0 g2 y c0 c1 s2 := by
      refine ⟨K2, Z2, ?_, V.2.2.2.1, V.2.2.2.2.1, G2⟩
      unfold ML at *
      rw [L12.2.1 (y + 4) (by omega) (by omega), L12.2.1 (y + 5) (by omega) (by omega), L12.2.1 (y + 6) (by omega) (by omega)]; exact lg
    have P2 : MP g2 y c0 c1 (prA c0 c1 st) := by
      unfold MP at *
      rw [L12.2.1 (y + 7) (by omega) (by omega), L12.2.1 (y + 8) (by omega) (by omega)]; exact Pg
    refine ⟨by rw [okA_of K2.1], d_layFrames V2 P2 (s2o 6 (by omega) (by omega)) (fun F3 g3 L3 M3 i3 => ?_)⟩
    have V3 := V2.lf L3 (by omega)
    have P3 := P2.lf L3 (by omega)
    have Z3 := V3.2.1
    have K3 := V3.1
    have LL := (L.trans L12).trans (L3.lb (by omega))
    refine ⟨by rw [okA_of K3.1], d_sumOf V3 P3 (s2o 0 (by omega) (by omega)) M3 i3.2 ?_⟩
    rw [if_neg (by omega), if_neg (by omega)]
    rw [← ht0] at i3
    have fr : ∀ (Q : Int → AH → Prop), Q (nFr c0 c1 st F3) g3 → w_X7_frames zz y g3 Q := fun Q q => d_framesM V3 P3 (s2o 6 (by omega) (by omega)) (s2o 7 (by omega) (by omega)) M3.1 i3.2 q
    simp only [jn_def]
    have go : ∀ (x3 x4 x5 : Int), (1 ≤ k + 1 ∧ x3 = 0 ∧ x5 = 0 ∧ ∃ F0 : Nat, x4 = nFr c0 c1 st F0 ∧ ∀ (w p : Int) (F : Nat), 0 ≤ p ∧ p ≤ 9 → isF (Nc c0) (glM c0 c1 st) (s0M c0) w p t0 F → F0 ≤ F) → (inR ((k : Int) + 1) ∧ ∀ x6_111 : Int, x6_111 = ((k : Int) + 1) → ∃ m, m < 30 - k ∧ I m x3 x4 x5 x6_111 g3) := by
      intro x3 x4 x5 hB
      exact ⟨by unfold inR; omega, fun x6 e6 => ⟨30 - (k + 1), by omega, (hI _ _ _ _ _ _).mpr ⟨k + 1, by omega, rfl, by omega, LL, ⟨(k : Int) / 10, (k : Int) % 10, by omega, by omega, by rw [← hs2]; exact Z3⟩, .inr hB⟩⟩⟩
    rcases B with ⟨rfl, rfl⟩ | ⟨hk1, rfl, rfl, F0, rfl, hmin⟩
    · have p0 : s2 5 = 0 := by rw [s25]; rfl
      rw [p0] at i3 ⊢
      refine ⟨fun _ => ⟨by rw [okA_of K3.1], fr _ (go _ _ _ ⟨by omega, rfl, ?_, F3, rfl, fun w p F hp hi => best_min hp glb s0b i3.1 hi⟩)⟩, fun h => absurd rfl h⟩
      rw [mht_p0]; rfl
    · have hle := hmin _ _ _ (by rw [s25]; omega) i3.1
      have lt : nFr c0 c1 st F0 ≤ nFr c0 c1 st F3 := by unfold nFr; omega
      refine ⟨fun h => absurd h (by omega), fun _ => ⟨by rw [okA_of K3.1], fr _ ⟨fun h => absurd h (by omega), fun _ => ⟨by rw [okA_of K3.1], fr _ ⟨fun _ => go _ _ _ ⟨by omega, rfl, rfl, F0, rfl, hmin⟩, fun _ => ⟨fun _ => go _ _ _ ⟨by omega, rfl, rfl, F0, rfl, hmin⟩, fun h => absurd h (by omega)⟩⟩⟩⟩⟩⟩
