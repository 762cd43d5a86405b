/-! THE PURE LAYER, 33: what the model tells -/
theorem MLy.bd {h : AH} {y F : Nat} {c0 c1 st : Nat → Int} (M : MLy h y c0 c1 st F) : (0 ≤ sti c0 c1 st ∧ sti c0 c1 st ≤ 60) ∧ Nc c0 ≤ 40 ∧ Nc c1 ≤ 40 ∧ F ≤ 190 ∧ 1 ≤ nFr c0 c1 st F ∧ nFr c0 c1 st F ≤ 320 := ⟨sti_bd M.1.2.2.2.2.2 M.1.2.2.2.1.n, M.1.2.2.2.1.n, M.1.2.2.2.2.1.n, M.2.2.2.2, nFr_bd M.1.2.2.2.2.2 M.1.2.2.2.1.n M.1.2.2.2.2.1.n M.2.2.2.2⟩
theorem d_within {zz : Nat → Nat} {a lo hi : Int} {h : AH} {Q : Int → AH → Prop} (q : Q (if lo ≤ a ∧ a ≤ hi then 1 else 0) h) : w_X7_within zz a lo hi h Q := by
  unfold w_X7_within
  refine jn_a1 (if lo ≤ a ∧ a ≤ hi then 1 else 0) h (fun f hf => ?_) ⟨by split <;> simp, q⟩
  rw [jn_def]
  refine ⟨fun h1 => ?_, fun h1 => ⟨fun h2 => ?_, fun h2 => ?_⟩⟩
  · rw [if_neg (by omega)] at hf; exact hf
  · rw [if_neg (by omega)] at hf; exact hf
  · rw [if_pos (by omega)] at hf; exact hf
theorem d_frames {zz : Nat → Nat} {y F : Nat} {h : AH} {Q : Int → AH → Prop} {c0 c1 st : Nat → Int} (M : MLy h y c0 c1 st F) (q : Q (nFr c0 c1 st F) h) : w_X7_frames zz y h Q := by
  have ⟨sb, h0, h1, hF, nb⟩ := M.bd
  obtain ⟨V, P, ⟨M1, M2, M3⟩, iF⟩ := M
  have K := V.1
  have g7 := V.2.2.2.2.2.2.2.2.2.2.2.2
  have cl := cK_le (f := ksA c0 c1 st) (n := Nc c1) (v := 5)
  unfold nFr at q
  unfold w_X7_frames
  refine ⟨by rw [okA_of K.1], d_firstMoving V P rfl ?_⟩
  rw [M1]
  refine ⟨by rw [okA_of K.1], by unfold inR; omega, by rw [okA_of K.1], d_ofKind1 V P ?_⟩
  show inR ((1 + sti c0 c1 st) + (F : Int) + (cK (ksA c0 c1 st) (Nc c1) 5 : Int)) ∧ okA h y 7 ∧ w_X7_of zz y (7 : Int) h (fun (r19 : Int) (h19 : AH) => inR (((1 + sti c0 c1 st) + (F : Int) + (cK (ksA c0 c1 st) (Nc c1) 5 : Int)) + r19) ∧ Q (((1 + sti c0 c1 st) + (F : Int) + (cK (ksA c0 c1 st) (Nc c1) 5 : Int)) + r19) h19)
  refine ⟨by unfold inR; omega, by rw [okA_of K.1], d_of K V.2.1 (by omega) ?_⟩
  have e : st (7 : Int).toNat = st 7 := rfl
  rw [e]
  exact ⟨by unfold inR; omega, q⟩
theorem d_isFrame {zz : Nat → Nat} {y F : Nat} {f : Int} {h : AH} {Q : Int → AH → Prop} {c0 c1 st : Nat → Int} (M : MLy h y c0 c1 st F) (q : Q (if 0 ≤ f ∧ f < nFr c0 c1 st F then 1 else 0) h) : w_X7_isFrame zz y f h Q := by
  have ⟨sb, h0, h1, hF, nb⟩ := M.bd
  unfold w_X7_isFrame
  refine ⟨by rw [okA_of M.1.1.1], d_frames M ⟨by unfold inR; omega, d_within ⟨by split <;> simp, ?_⟩⟩⟩
  by_cases e : 0 ≤ f ∧ f < nFr c0 c1 st F
  · rw [if_pos e] at q; rw [if_pos (by omega)]; exact q
  · rw [if_neg e] at q; rw [if_neg (by omega)]; exact q
theorem st_bd {c0 c1 st : Nat → Int} {k : Nat} (hk : k < Nc c0) : 0 ≤ stpA c0 c1 st k ∧ stpA c0 c1 st k ≤ 19 := by
  unfold stpA
  split
  · omega
  next n =>
    rcases pf_cases (c1 := c1) (st := st) hk with h | ⟨j, hj, e1, -⟩
    · exact absurd h.1 n
    · have l0 := Lc_lt hk
      have l1 := Lc_lt hj
      rw [show (pfA c0 c1 st k).toNat = j by omega]
      have v1 := ab1_bd (x := (Lc c0 k : Int) % 16 - (Lc c1 j : Int) % 16) (n := 15) (by omega) (by omega)
      have v2 := ab1_bd (x := (Lc c0 k : Int) / 16 - (Lc c1 j : Int) / 16) (n := 4) (by omega) (by omega)
      omega
theorem di_bd {c0 c1 st : Nat → Int} {k : Nat} (gs : GS st) (hk : k < Nc c0) : 0 ≤ disA c0 c1 st k ∧ disA c0 c1 st k ≤ 51 := by
  unfold disA
  split
  · omega
  next n =>
    rcases pf_cases (c1 := c1) (st := st) hk with h | ⟨j, hj, e1, -⟩
    · exact absurd h.1 n
    · rw [show (pfA c0 c1 st k).toNat = j by omega]
      exact dsc_bd (by have := gs.1; omega) (Lc_lt hk) (Lc_lt hj)
theorem d_steps {zz : Nat → Nat} {y k : Nat} {h : AH} {Q : Int → AH → Prop} {c0 c1 st s2 : Nat → Int} (V : MV0 h y c0 c1 s2) (P : MP h y c0 c1 (prA c0 c1 st)) (hk : k < Nc c0) (q : Q (stpA c0 c1 st k) h) : w_X7_steps zz y k h Q := by
  have K := V.1
  have h0 := V.2.2.2.1.n
  have h1 := V.2.2.2.2.1.n
  obtain ⟨kt, kl, ⟨ka1, ka2, ka3, ka4, ka5, ka6, ka7, ka8, ka9, ka10, ka11, ka12, ka13, ka14, ka15, ka16⟩, ⟨kr1, kr2, kr3, kr4, kr5, kr6, kr7, kr8, kr9, kr10, kr11, kr12, kr13, kr14, kr15, kr16⟩⟩ := K
  have b := st_bd (c1 := c1) (st := st) hk
  unfold stpA at q b
  unfold w_X7_steps
  refine ⟨by rw [okA_of kt], y + 7, kr7, by rw [okI_of ka7]; omega, ?_⟩
  rw [(P.1 k hk).1]
  refine ⟨fun n => ⟨by rw [okA_of kt], y + 5, kr5, by rw [okI_of ka5]; omega, ?_⟩, fun e => ?_⟩
  · have n : pfA c0 c1 st k ≠ -1 := n
    rw [if_neg n] at q b
    rcases pf_cases (c1 := c1) (st := st) hk with h | ⟨j, hj, e1, -⟩
    · exact absurd h.1 n
    have l0 := Lc_lt hk
    have l1 := Lc_lt hj
    have eg : glM c0 c1 st k = (Lc c1 j : Int) := by
      show glA c1 (prA c0 c1 st) k = _
      unfold glA
      rw [if_neg n, show (prA c0 c1 st).1 k = _ from e1]; rfl
    rw [show (pfA c0 c1 st k).toNat = j by omega] at q b
    rw [(V.2.2.1.2.2.1 k hk).1]
    intro a ea
    subst ea
    have v1 := ab1_bd (x := (Lc c0 k : Int) % 16 - (Lc c1 j : Int) % 16) (n := 15) (by omega) (by omega)
    have v2 := ab1_bd (x := (Lc c0 k : Int) / 16 - (Lc c1 j : Int) / 16) (n := 4) (by omega) (by omega)
    refine ⟨by rw [okA_of kt], d_goal V P hk n ?_⟩
    rw [eg]
    exact ⟨⟨by omega, by omega⟩, ⟨by omega, by omega⟩, by unfold inR; omega, d_size (by omega) ⟨⟨by omega, by omega⟩, ⟨by omega, by omega⟩, by unfold inR; omega, d_size (by omega) ⟨by unfold inR; omega, q⟩⟩⟩
  · rw [if_pos (show pfA c0 c1 st k = -1 from e)] at q; exact q
theorem sN_up {f : Nat → Int} {k n : Nat} {v : Int} (hk : k < n) : sN (un f k v) n = sN f n + (v - f k) := by
  have := sN_upd (g := f) (g' := un f k v) hk (fun j _ hne => un_n hne)
  rw [this, un_s]
theorem msw_h {n : Nat} {gl : Nat → Int} {w p : Int} {t : Nat} {z : MT} : ∀ k, k ≤ n → sN (msw n gl w p t z k).2.2.1 n = sN z.2.2.1 n + ((msw n gl w p t z k).2.2.2.2 : Int) - (z.2.2.2.2 : Int) := by
  intro k
  induction k with
  | zero => intro _; show sN z.2.2.1 n = sN z.2.2.1 n + (z.2.2.2.2 : Int) - (z.2.2.2.2 : Int); omega
  | succ k ih =>
    intro hk
    have i := ih (by omega)
    show sN (mst n gl w p t (msw n gl w p t z k) k).2.2.1 n = _ + ((mst n gl w p t (msw n gl w p t z k) k).2.2.2.2 : Int) - _
    obtain ⟨u, hu⟩ : ∃ u, u = msw n gl w p t z k := ⟨_, rfl⟩
    rw [← hu] at i ⊢
    unfold mst
    split
    · split
      · show sN (un u.2.2.1 k (u.2.2.1 k + 1)) n = _ + ((u.2.2.2.2 + 1 : Nat) : Int) - _
        rw [sN_up (by omega), i]; omega
      · exact i
    · exact i
theorem mfr_h {n : Nat} {gl s0 : Nat → Int} {w p : Int} : ∀ t, sN (mfr n gl s0 w p t).2.2.1 n = (mht n gl s0 w p t : Int) := by
  intro t
  induction t with
  | zero =>
    show sN (fun _ => 0) n = ((0 : Nat) : Int)
    have : ∀ m, sN (fun _ => 0) m = 0 := by
      intro m
      induction m with
      | zero => rfl
      | succ m im => rw [sN_s, im]; rfl
    rw [this]; rfl
  | succ t ih =>
    have := msw_h (n := n) (gl := gl) (w := w) (p := p) (t := t + 1) (z := mrs (mfr n gl s0 w p t)) n (Nat.le_refl _)
    show sN (msw n gl w p (t + 1) (mrs (mfr n gl s0 w p t)) n).2.2.1 n = ((mht n gl s0 w p t + (msw n gl w p (t + 1) (mrs (mfr n gl s0 w p t)) n).2.2.2.2 : Nat) : Int)
    rw [this]
    show sN (mfr n gl s0 w p t).2.2.1 n + _ - ((0 : Nat) : Int) = _
    rw [ih]; omega
/-- sums, where only the cells' moving is by other settings (best) -/
theorem d_sumOf {zz : Nat → Nat} {y F : Nat} {what : Int} {h : AH} {Q : Int → AH → Prop} {c0 c1 st s2 : Nat → Int} (V : MV0 h y c0 c1 s2) (P : MP h y c0 c1 (prA c0 c1 st)) (e0 : s2 0 = st 0) (M : MFr h y (Nc c0) (glM c0 c1 st) (s0M c0) (s2 4) (s2 5) (sti c0 c1 st) F) (hF : F ≤ 190) (q : Q (if what = 9 then sN (disA c0 c1 st) (Nc c0) else if what = 10 then sN (stpA c0 c1 st) (Nc c0) else (mht (Nc c0) (glM c0 c1 st) (s0M c0) (s2 4) (s2 5) F : Int)) h) : w_X7_sumOf zz y what h Q := by
  have K := V.1
  have h0 := V.2.2.2.1.n
  have gs := V.2.2.2.2.2
  have n0 := V.2.2.1.1
  obtain ⟨kt, kl, ⟨ka1, ka2, ka3, ka4, ka5, ka6, ka7, ka8, ka9, ka10, ka11, ka12, ka13, ka14, ka15, ka16⟩, ⟨kr1, kr2, kr3, kr4, kr5, kr6, kr7, kr8, kr9, kr10, kr11, kr12, kr13, kr14, kr15, kr16⟩⟩ := K
  have gs0 : 1 ≤ st 0 ∧ st 0 ≤ 9 := by have := gs.1; omega
  have dsE : ∀ i j, dsL c0 c1 s2 i j = dsL c0 c1 st i j := fun i j => by unfold dsL; rw [e0]
  have dib : ∀ k, k < Nc c0 → 0 ≤ disA c0 c1 st k ∧ disA c0 c1 st k ≤ 51 := by
    intro k hk
    unfold disA
    split
    · omega
    next n =>
      rcases pf_cases (c1 := c1) (st := st) hk with h | ⟨j, hj, e1, -⟩
      · exact absurd h.1 n
      · rw [show (pfA c0 c1 st k).toNat = j by omega]
        exact dsc_bd (by omega) (Lc_lt hk) (Lc_lt hj)
  have hb : ∀ k, k < Nc c0 → 0 ≤ (mfr (Nc c0) (glM c0 c1 st) (s0M c0) (s2 4) (s2 5) F).2.2.1 k ∧ (mfr (Nc c0) (glM c0 c1 st) (s0M c0) (s2 4) (s2 5) F).2.2.1 k ≤ 190 := by
    intro k hk
    have := ((mfr_k (w := s2 4) gs.2.2.2.2.2.1 (fun k hk => by
      rcases glA_ok (c1 := c1) (pw_A (c0 := c0) (c1 := c1) (st := st)) k hk with h | h
      · exact .inl h.1
      · exact .inr h.1) (s0 := s0M c0) (fun k hk => by
      have := Lc_lt hk
      show 0 ≤ (Lc c0 k : Int) ∧ (Lc c0 k : Int) < 80
      omega) F).1 k hk).2.2.1
    exact ⟨this.1, Int.le_trans this.2 (by omega)⟩
  obtain ⟨s, hs⟩ : ∃ s : Nat → Int, ∀ k, s k = if what = 9 then disA c0 c1 st k else if what = 10 then stpA c0 c1 st k else (mfr (Nc c0) (glM c0 c1 st) (s0M c0) (s2 4) (s2 5) F).2.2.1 k := ⟨_, fun _ => rfl⟩
  have sb : ∀ k, k < Nc c0 → 0 ≤ s k ∧ s k ≤ 190 := by
    intro k hk
    have a := dib k hk
    have b := st_bd (c1 := c1) (st := st) hk
    have c := hb k hk
    rw [hs]; split
    · omega
    · split <;> omega
  have q : Q (sN s (Nc c0)) h := by
    by_cases e9 : what = 9
    · rw [if_pos e9] at q
      rw [sN_ext (g := disA c0 c1 st) (fun k hk => by rw [hs, if_pos e9])]; exact q
    · rw [if_neg e9] at q
      by_cases e10 : what = 10
      · rw [if_pos e10] at q
        rw [sN_ext (g := stpA c0 c1 st) (fun k hk => by rw [hs, if_neg e9, if_pos e10])]; exact q
      · rw [if_neg e10, ← mfr_h] at q
        rw [sN_ext (g := (mfr (Nc c0) (glM c0 c1 st) (s0M c0) (s2 4) (s2 5) F).2.2.1) (fun k hk => by rw [hs, if_neg e9, if_neg e10])]; exact q
  unfold w_X7_sumOf
  obtain ⟨I, hI⟩ : ∃ I : Nat → Int → Int → AH → Prop, ∀ m x i h', I m x i h' ↔ ∃ k : Nat, k ≤ Nc c0 ∧ m = Nc c0 - k ∧ i = (k : Int) ∧ x = sN s k ∧ h' = h := ⟨_, fun _ _ _ _ => Iff.rfl⟩
  refine ⟨I, ⟨_, (hI _ _ _ _).mpr ⟨0, by omega, rfl, rfl, rfl, rfl⟩⟩, ?_⟩
  intro m x i h' hi9
  obtain ⟨k, hk, rfl, rfl, rfl, rfl⟩ := (hI _ _ _ _).mp hi9
  refine ⟨by rw [okA_of kt], y + 4, kr4, by rw [okI_of ka4]; omega, ?_⟩
  rw [n0]
  refine ⟨fun hc => ?_, fun hc => ?_⟩
  · obtain rfl : k = Nc c0 := by omega
    exact q
  · have hk8 : k < Nc c0 := by omega
    have sk := sb k hk8
    have sx := sN_bd (f := s) (n := k) (b := 190) (fun j hj => sb j (by omega))
    refine ⟨by rw [okA_of kt], y + 7, kr7, by rw [okI_of ka7]; omega, jn_a1 (disA c0 c1 st k) h' (fun f hf => ?_) (jn_a1 (s k) h' (fun f hf => ?_) ⟨by unfold inR; omega, fun x2 e2 => ⟨by unfold inR; omega, fun x3 e3 => ⟨Nc c0 - (k + 1), by omega, (hI _ _ _ _).mpr ⟨k + 1, by omega, rfl, by omega, by rw [sN_s]; exact e2, rfl⟩⟩⟩⟩)⟩
    · rw [(P.1 k hk8).1]
      unfold disA at hf
      refine ⟨fun n => ⟨by rw [okA_of kt], y + 7, kr7, by rw [okI_of ka7]; omega, by rw [okA_of kt], ?_⟩, fun e => ?_⟩
      · have n : pfA c0 c1 st k ≠ -1 := n
        rw [if_neg n] at hf
        rcases pf_cases (c1 := c1) (st := st) hk8 with h | ⟨j, hj, e1, -⟩
        · exact absurd h.1 n
        rw [(P.1 k hk8).1, show (prA c0 c1 st).1 k = _ from e1]
        rw [show (pfA c0 c1 st k).toNat = j by omega, ← dsE] at hf
        exact d_distance V hk8 hj hf
      · rw [if_pos (show pfA c0 c1 st k = -1 from e)] at hf; exact hf
    · rw [hs] at hf
      refine ⟨fun n9 => ⟨fun n10 => ⟨by rw [okA_of kt], y + 12, kr12, by rw [okI_of ka12]; omega, ?_⟩, fun e10 => ⟨by rw [okA_of kt], d_steps V P hk8 ?_⟩⟩, fun e9 => ?_⟩
      · rw [if_neg n9, if_neg n10] at hf
        rw [(M.2.1 k hk8).2.2.1]; exact hf
      · rw [if_neg n9, if_pos e10] at hf; exact hf
      · rw [if_pos e9] at hf; exact hf
theorem d_counted {zz : Nat → Nat} {y F : Nat} {v : Int} {h : AH} {Q : Int → AH → Prop} {c0 c1 st : Nat → Int} (M : MLy h y c0 c1 st F) (hv : 0 ≤ v ∧ v ≤ 12) (q : Q (if v = 12 then hfI h y 2 else numA c0 c1 st F v) h) : w_X7_counted zz y v h Q := by
  have M0 := M
  obtain ⟨V, P, Mf, iF⟩ := M
  have K := V.1
  obtain ⟨kt, kl, ⟨ka1, ka2, ka3, ka4, ka5, ka6, ka7, ka8, ka9, ka10, ka11, ka12, ka13, ka14, ka15, ka16⟩, ⟨kr1, kr2, kr3, kr4, kr5, kr6, kr7, kr8, kr9, kr10, kr11, kr12, kr13, kr14, kr15, kr16⟩⟩ := K
  have qq : v ≠ 12 → Q (numA c0 c1 st F v) h := fun n => by rw [if_neg n] at q; exact q
  unfold numA at qq
  have ok : okA h y 7 := by rw [okA_of kt]
  have i1 : inR (v - 1) := by unfold inR; omega
  have i2 : inR (v - 2) := by unfold inR; omega
  have su : (v = 9 ∨ v = 10 ∨ v = 11) → w_X7_sumOf zz y v h (fun (r110 : Int) (h110 : AH) => Q r110 h110) := by
    intro hv3
    refine d_sumOf V P rfl Mf iF.2 ?_
    have qq := qq (by omega)
    rw [if_neg (by omega), if_neg (by omega), if_neg (by omega), if_neg (by omega), if_neg (by omega), if_neg (by omega), if_neg (by omega), if_neg (by omega), if_neg (by omega)] at qq
    exact qq
  unfold w_X7_counted
  refine ⟨fun e => ⟨ok, d_frames M0 ?_⟩, fun e => ⟨ok, y + 4, kr4, i1, by rw [okI_of ka4]; omega, ?_⟩, fun e => ⟨ok, y + 4, kr4, i1, by rw [okI_of ka4]; omega, ?_⟩, fun e => ⟨i2, ok, ?_⟩, fun e => ⟨i2, ok, ?_⟩, fun e => ⟨i2, ok, ?_⟩, fun e => ⟨i2, ok, ?_⟩, fun e => ⟨ok, d_ofKind1 V P ?_⟩, fun e => ⟨ok, ?_⟩, fun e => ⟨ok, su (by omega)⟩, fun e => ⟨ok, su (by omega)⟩, fun e => ⟨ok, su (by omega)⟩, fun e => ⟨ok, ?_⟩, fun e => ⟨ok, by omega⟩⟩
  · have qq := qq (by omega); rw [if_pos e] at qq; exact qq
  · have qq := qq (by omega); rw [if_neg (by omega), if_pos e] at qq
    rw [show v - 1 = 0 by omega, V.2.2.1.1]; exact qq
  · have qq := qq (by omega); rw [if_neg (by omega), if_neg (by omega), if_pos e] at qq
    rw [show v - 1 = 1 by omega, V.2.2.1.2.1]; exact qq
  · have qq := qq (by omega); rw [if_neg (by omega), if_neg (by omega), if_neg (by omega), if_pos e] at qq
    rw [show v - 2 = 1 by omega]; exact d_ofKind0 V P qq
  · have qq := qq (by omega); rw [if_neg (by omega), if_neg (by omega), if_neg (by omega), if_neg (by omega), if_pos e] at qq
    rw [show v - 2 = 2 by omega]; exact d_ofKind0 V P qq
  · have qq := qq (by omega); rw [if_neg (by omega), if_neg (by omega), if_neg (by omega), if_neg (by omega), if_neg (by omega), if_pos e] at qq
    rw [show v - 2 = 3 by omega]; exact d_ofKind0 V P qq
  · have qq := qq (by omega); rw [if_neg (by omega), if_neg (by omega), if_neg (by omega), if_neg (by omega), if_neg (by omega), if_neg (by omega), if_pos e] at qq
    rw [show v - 2 = 4 by omega]; exact d_ofKind0 V P qq
  · have qq := qq (by omega); rw [if_neg (by omega), if_neg (by omega), if_neg (by omega), if_neg (by omega), if_neg (by omega), if_neg (by omega), if_neg (by omega), if_pos e] at qq
    exact qq
  · have qq := qq (by omega); rw [if_neg (by omega), if_neg (by omega), if_neg (by omega), if_neg (by omega), if_neg (by omega), if_neg (by omega), if_neg (by omega), if_neg (by omega), if_pos e] at qq
    rw [Mf.1]; exact qq
  · rw [if_pos e] at q; exact q
theorem d_wayNow {zz : Nat → Nat} {y k F : Nat} {v : Int} {h : AH} {Q : Int → AH → Prop} {c0 c1 st : Nat → Int} (M : MLy h y c0 c1 st F) (hk : k < Nc c0) (q : Q (wayA c0 c1 st F k v) h) : w_X7_wayNow zz y k v h Q := by
  obtain ⟨V, P, Mf, iF⟩ := M
  have h0 := V.2.2.2.1.n
  have K := V.1
  obtain ⟨kt, kl, ⟨ka1, ka2, ka3, ka4, ka5, ka6, ka7, ka8, ka9, ka10, ka11, ka12, ka13, ka14, ka15, ka16⟩, ⟨kr1, kr2, kr3, kr4, kr5, kr6, kr7, kr8, kr9, kr10, kr11, kr12, kr13, kr14, kr15, kr16⟩⟩ := K
  unfold wayA at q
  unfold w_X7_wayNow
  rw [jn_def]
  refine ⟨fun n0 => ⟨fun n1 => ⟨by rw [okA_of kt], y + 8, kr8, by rw [okI_of ka8]; omega, ?_⟩, fun e1 => ⟨by rw [okA_of kt], y + 12, kr12, by rw [okI_of ka12]; omega, ?_⟩⟩, fun e0 => ⟨by rw [okA_of kt], d_steps V P hk ?_⟩⟩
  · rw [if_neg n0, if_neg n1] at q
    rw [(P.1 k hk).2]
    refine ⟨fun n4 => ⟨by rw [okA_of kt], y + 15, kr15, by rw [okI_of ka15]; omega, ?_⟩, fun e4 => ⟨by rw [okA_of kt], d_goneAt V P rfl hk e4 ?_⟩⟩
    · rw [if_neg n4] at q
      have e := (Mf.2.1 k hk).2.2.2 (fun h => absurd iF.1.2.1 (Nat.ne_of_gt (cG_pos.mpr ⟨k, hk, h.1, h.2⟩)))
      rw [e]; exact q
    · rw [if_pos (show kfA c0 c1 st k = 4 from e4)] at q; exact q
  · rw [if_neg n0, if_pos e1] at q
    rw [(Mf.2.1 k hk).2.2.1]; exact q
  · rw [if_pos e0] at q; exact q
theorem d_letter0 {zz : Nat → Nat} {y i F : Nat} {v : Int} {h : AH} {Q : Int → AH → Prop} {c0 c1 st : Nat → Int} (M : MLy h y c0 c1 st F) (hi : i < Nc c0) (hv : 0 ≤ v ∧ v ≤ 5) (q : Q (let0 c0 c1 st i v) h) : w_X7_letterNow zz y (0 : Int) i v h Q := by
  obtain ⟨V, P, Mf, iF⟩ := M
  have h0 := V.2.2.2.1.n
  have K := V.1
  obtain ⟨kt, kl, ⟨ka1, ka2, ka3, ka4, ka5, ka6, ka7, ka8, ka9, ka10, ka11, ka12, ka13, ka14, ka15, ka16⟩, ⟨kr1, kr2, kr3, kr4, kr5, kr6, kr7, kr8, kr9, kr10, kr11, kr12, kr13, kr14, kr15, kr16⟩⟩ := K
  have l := V.2.2.1.2.2.1 i hi
  have p := P.1 i hi
  unfold let0 at q
  unfold w_X7_letterNow
  refine ⟨by unfold inR; omega, by unfold inR; omega, ?_⟩
  intro a ea
  obtain rfl : a = (i : Int) := by omega
  refine ⟨fun e => ⟨by rw [okA_of kt], y + 5, kr5, by rw [okI_of ka5]; omega, ?_⟩, fun e => ⟨by rw [okA_of kt], y + 5, kr5, by rw [okI_of ka5]; omega, ?_⟩, fun e => ⟨by rw [okA_of kt], y + 6, kr6, by rw [okI_of ka6]; omega, ?_⟩, fun e => ⟨by rw [okA_of kt], y + 7, kr7, by rw [okI_of ka7]; omega, ?_⟩, fun e => ⟨by rw [okA_of kt], y + 8, kr8, by rw [okI_of ka8]; omega, ?_⟩, fun e => ⟨by rw [okA_of kt], y + 7, kr7, by rw [okI_of ka7]; omega, ?_⟩⟩
  · rw [if_pos e] at q; rw [l.1]; exact ⟨⟨by omega, by omega⟩, q⟩
  · rw [if_neg (by omega), if_pos e] at q; rw [l.1]; exact ⟨⟨by omega, by omega⟩, q⟩
  · rw [if_neg (by omega), if_neg (by omega), if_pos e] at q; rw [l.2]; exact q
  · rw [if_neg (by omega), if_neg (by omega), if_neg (by omega), if_pos e] at q; rw [p.1]; exact q
  · rw [if_neg (by omega), if_neg (by omega), if_neg (by omega), if_neg (by omega), if_pos e] at q; rw [p.2]; exact q
  · rw [if_neg (by omega), if_neg (by omega), if_neg (by omega), if_neg (by omega), if_neg (by omega)] at q
    unfold disA at q
    rw [jn_def, p.1]
    refine ⟨fun n => ⟨fun n0 => absurd rfl n0, fun _ => ⟨by rw [okA_of kt], y + 7, kr7, by rw [okI_of ka7]; omega, by rw [okA_of kt], ?_⟩⟩, fun e => ?_⟩
    · have n : pfA c0 c1 st i ≠ -1 := n
      rw [if_neg n] at q
      rcases pf_cases (c1 := c1) (st := st) hi with h | ⟨j, hj, e1, -⟩
      · exact absurd h.1 n
      rw [show (pfA c0 c1 st i).toNat = j by omega] at q
      rw [p.1, show (prA c0 c1 st).1 i = _ from e1]
      exact d_distance V hi hj q
    · rw [if_pos (show pfA c0 c1 st i = -1 from e)] at q; exact q
theorem d_letter1 {zz : Nat → Nat} {y i F : Nat} {v : Int} {h : AH} {Q : Int → AH → Prop} {c0 c1 st : Nat → Int} (M : MLy h y c0 c1 st F) (hi : i < Nc c1) (hv : 0 ≤ v ∧ v ≤ 5) (q : Q (let1 c0 c1 st i v) h) : w_X7_letterNow zz y (1 : Int) i v h Q := by
  obtain ⟨V, P, Mf, iF⟩ := M
  have h0 := V.2.2.2.2.1.n
  have K := V.1
  obtain ⟨kt, kl, ⟨ka1, ka2, ka3, ka4, ka5, ka6, ka7, ka8, ka9, ka10, ka11, ka12, ka13, ka14, ka15, ka16⟩, ⟨kr1, kr2, kr3, kr4, kr5, kr6, kr7, kr8, kr9, kr10, kr11, kr12, kr13, kr14, kr15, kr16⟩⟩ := K
  have l := V.2.2.1.2.2.2 i hi
  have p := P.2 i hi
  unfold let1 at q
  unfold w_X7_letterNow
  refine ⟨by unfold inR; omega, by unfold inR; omega, ?_⟩
  intro a ea
  obtain rfl : a = (40 : Int) + (i : Int) := by omega
  refine ⟨fun e => ⟨by rw [okA_of kt], y + 5, kr5, by rw [okI_of ka5]; omega, ?_⟩, fun e => ⟨by rw [okA_of kt], y + 5, kr5, by rw [okI_of ka5]; omega, ?_⟩, fun e => ⟨by rw [okA_of kt], y + 6, kr6, by rw [okI_of ka6]; omega, ?_⟩, fun e => ⟨by rw [okA_of kt], y + 7, kr7, by rw [okI_of ka7]; omega, ?_⟩, fun e => ⟨by rw [okA_of kt], y + 8, kr8, by rw [okI_of ka8]; omega, ?_⟩, fun e => ⟨by rw [okA_of kt], y + 7, kr7, by rw [okI_of ka7]; omega, ?_⟩⟩
  · rw [if_pos e] at q; rw [l.1]; exact ⟨⟨by omega, by omega⟩, q⟩
  · rw [if_neg (by omega), if_pos e] at q; rw [l.1]; exact ⟨⟨by omega, by omega⟩, q⟩
  · rw [if_neg (by omega), if_neg (by omega), if_pos e] at q; rw [l.2]; exact q
  · rw [if_neg (by omega), if_neg (by omega), if_neg (by omega), if_pos e] at q; rw [p.1]; exact q
  · rw [if_neg (by omega), if_neg (by omega), if_neg (by omega), if_neg (by omega), if_pos e] at q; rw [p.2]; exact q
  · rw [if_neg (by omega), if_neg (by omega), if_neg (by omega), if_neg (by omega), if_neg (by omega)] at q
    rw [jn_def, p.1]
    refine ⟨fun n => ⟨fun n0 => ⟨by rw [okA_of kt], y + 7, kr7, by rw [okI_of ka7]; omega, by rw [okA_of kt], ?_⟩, fun h => absurd h (by omega)⟩, fun e => ?_⟩
    · have n : psA c0 c1 st i ≠ -1 := n
      rw [if_neg n] at q
      rcases ps_cases (c0 := c0) (st := st) hi with h | ⟨j, hj, e1, -⟩
      · exact absurd h.1 n
      rw [show (psA c0 c1 st i).toNat = j by omega] at q
      rw [p.1, show (prA c0 c1 st).2.1 i = _ from e1]
      exact d_distance V hj hi q
    · rw [if_pos (show psA c0 c1 st i = -1 from e)] at q; exact q
theorem d_likenessNow {zz : Nat → Nat} {y F : Nat} {h : AH} {Q : UInt64 → AH → Prop} {c0 c1 st : Nat → Int} (M : MLy h y c0 c1 st F) (q : Q (likA c0 c1 st) h) : w_X7_likenessNow zz y h Q := by
  obtain ⟨V, P, Mf, iF⟩ := M
  have h0 := V.2.2.2.1.n
  have h1 := V.2.2.2.2.1.n
  have K := V.1
  obtain ⟨kt, kl, ⟨ka1, ka2, ka3, ka4, ka5, ka6, ka7, ka8, ka9, ka10, ka11, ka12, ka13, ka14, ka15, ka16⟩, ⟨kr1, kr2, kr3, kr4, kr5, kr6, kr7, kr8, kr9, kr10, kr11, kr12, kr13, kr14, kr15, kr16⟩⟩ := K
  have bd := lk_bd (c0 := c0) (c1 := c1) (st := st)
  unfold likA at q
  unfold w_X7_likenessNow
  refine ⟨by rw [okA_of kt], y + 4, kr4, by rw [okI_of ka4]; omega, by rw [okA_of kt], y + 4, kr4, by rw [okI_of ka4]; omega, ?_⟩
  rw [V.2.2.1.1, V.2.2.1.2.1]
  refine ⟨by unfold inR; omega, ?_⟩
  intro x ex
  have ex : x = ((Nc c0 + Nc c1 : Nat) : Int) := by omega
  subst ex
  rw [jn_def]
  refine ⟨fun n => ⟨by rw [okA_of kt], d_ofKind0 V P ?_⟩, fun e => ?_⟩
  · rw [if_neg (by omega)] at q
    have al := lk_all bd (by omega) (by omega)
    show vf_n64 (lkD (cK (kfA c0 c1 st) (Nc c0) 1)) ∧ vf_n64 (FP.ddiv (lkD (cK (kfA c0 c1 st) (Nc c0) 1)) (FP.i2d (Int32.ofInt ((Nc c0 + Nc c1 : Nat) : Int)))) ∧ Q (FP.ddiv (lkD (cK (kfA c0 c1 st) (Nc c0) 1)) (FP.i2d (Int32.ofInt ((Nc c0 + Nc c1 : Nat) : Int)))) h
    rw [al.2.2.1]
    exact ⟨al.2.1, al.1, q⟩
  · rw [if_pos (by omega)] at q; exact q
