/-! THE PURE LAYER, 45: the law's loop: every answer of the class is the model's (written by mk61.py) -/
theorem jn_q {B : AH → Prop} {C : (AH → Prop) → Prop} {P : AH → Prop} (hC : ∀ K : AH → Prop, (∀ g, P g → K g) → C K) (hB : ∀ g, P g → B g) : jn B C := by
  rw [jn_def]; exact hC B hB
set_option maxHeartbeats 8000000 in
theorem law_loop {zz : Nat → Nat} {a n : Nat} {f : Int → Int} {h : AH} {Q : Int → AH → Prop} (Z : Zs h zz) (hn9 : hlo h ≤ hn h) (ka : hkd h a = (1, n)) (fa : haI h a = f) (ha : a < hlo h) (hn60 : n ≤ 2560) (q : ∀ h' : AH, Q 1 h') : w_L_law zz a h Q := by
  unfold w_L_law
  intro g0 e0
  obtain ⟨x, hx⟩ : ∃ x, x = hn h := ⟨_, rfl⟩
  rw [← hx]
  have E0 : Ex h g0 x := by rw [e0]; exact (Ex.refl h x).ob (by omega)
  refine n_object (Z.ex E0 (by omega)) (by rw [e0, hkd_nOb, if_pos hx]) (by rw [E0.1]; omega) (by rw [e0, hn_nOb]; omega) (fun g1 E1 n1 C1 => ?_)
  have E1 := E0.trans E1 (Nat.le_refl _)
  intro x1 ex1
  subst ex1
  intro g2 e2
  obtain ⟨y, hy⟩ : ∃ y, y = hn g1 := ⟨_, rfl⟩
  rw [← hy]
  have E2 : Ex g1 g2 y := by rw [e2]; exact (Ex.refl g1 y).ob (by omega)
  have i2 : hfI g2 y = fun _ => 0 := by rw [e2, hfI_nOb, if_pos hy]
  refine n_model (by rw [e2, hkd_nOb, if_pos hy]) (by rw [E2.1, E1.1]; omega) (by rw [e2, hn_nOb]; omega) (by rw [i2]) (by rw [i2]) (fun g3 E3 n3 R3 => ?_)
  have E3 := E2.trans E3 (Nat.le_refl _)
  intro y1 ey1
  subst ey1
  intro g4 e4
  obtain ⟨o, ho⟩ : ∃ o, o = hn g3 := ⟨_, rfl⟩
  rw [← ho]
  have E4 : Ex g3 g4 o := by rw [e4]; exact (Ex.refl g3 o).al (by omega)
  intro o1 eo1
  subst eo1
  have C4 : CR g4 zz x1 D00 := (C1.ag (fun q hq => E3.ag (by omega)) E3.1 (E3.2.2 (x1 + 61) (by omega)).2.2.2.2.2.1).ag (fun q hq => E4.ag (by omega)) E4.1 (E4.2.2 (x1 + 61) (by omega)).2.2.2.2.2.1
  have R4 : MRl g4 y1 D00 := by
    have K4 : MdK g4 y1 := by
      have K3 := R3.1
      unfold MdK at *
      rw [(E4.ag (q := y1) (by omega)).1, (E4.ag (q := y1) (by omega)).2.2.1, E4.1, (E4.ag (q := y1 + 1) (by omega)).1, (E4.ag (q := y1 + 2) (by omega)).1, (E4.ag (q := y1 + 3) (by omega)).1, (E4.ag (q := y1 + 4) (by omega)).1, (E4.ag (q := y1 + 5) (by omega)).1, (E4.ag (q := y1 + 6) (by omega)).1, (E4.ag (q := y1 + 7) (by omega)).1, (E4.ag (q := y1 + 8) (by omega)).1, (E4.ag (q := y1 + 9) (by omega)).1, (E4.ag (q := y1 + 10) (by omega)).1, (E4.ag (q := y1 + 11) (by omega)).1, (E4.ag (q := y1 + 12) (by omega)).1, (E4.ag (q := y1 + 13) (by omega)).1, (E4.ag (q := y1 + 14) (by omega)).1, (E4.ag (q := y1 + 15) (by omega)).1, (E4.ag (q := y1 + 16) (by omega)).1]
      exact K3
    refine R3.c K4 (fun k hk => ?_) (E4.ag (q := y1 + 2) (by omega)).2.2.2 (E4.ag (q := y1 + 3) (by omega)).2.2.2 ?_ ?_
    · rw [(E4.ag (q := y1 + 1) (by omega)).2.2.2]; exact R3.2.1 k hk
    · rw [(E4.ag (q := y1) (by omega)).2.1]
    · rw [(E4.ag (q := y1) (by omega)).2.1]
  have L4 : Lpq g4 zz x1 y1 o1 a n f D00 D00 := by
    refine ⟨C4, R4, by rw [e4, hkd_nAL, if_pos ho], ?_, ?_, ?_, ?_, by omega, by omega⟩
    · rw [(E4.ag (q := a) (by omega)).1, (E3.ag (q := a) (by omega)).1, (E1.ag (q := a) (by omega)).1]; exact ka
    · rw [(E4.ag (q := a) (by omega)).2.2.2, (E3.ag (q := a) (by omega)).2.2.2, (E1.ag (q := a) (by omega)).2.2.2]; exact fa
    · rw [E4.1, E3.1, E1.1]; exact ha
    · rw [E4.1, E3.1, E1.1]; omega
  clear C4 R4 E4 e4 E3 R3 n3 i2 E2 e2 C1 n1 E1 E0 e0
  obtain ⟨I, hI⟩ : ∃ I : Nat → Int → AH → Prop, ∀ m i g, I m i g ↔ ∃ k : Nat, 5 * k ≤ n + 4 ∧ m = 520 - k ∧ i = 5 * (k : Int) ∧ ∃ D, Lpq g zz x1 y1 o1 a n f D D := ⟨_, fun _ _ _ => Iff.rfl⟩
  refine ⟨I, ⟨520, by omega, (hI _ _ _).mpr ⟨0, by omega, rfl, rfl, D00, L4⟩⟩, ?_⟩
  clear L4
  intro m i g hi9
  obtain ⟨k, hk, rfl, rfl, D, L⟩ := (hI _ _ _).mp hi9
  refine ⟨n, L.2.2.2.1, by unfold inR; omega, fun _ => q g, fun hc => ⟨L.ai (by omega), ?_⟩⟩
  have hk5 : 5 * k + 5 ≤ n := by omega
  refine jn_q (P := fun g => ∃ D, Lpq g zz x1 y1 o1 a n f D D) (fun K hK => ?_) (fun g' hg' => ⟨by unfold inR; omega, fun x4 e4 => ⟨520 - (k + 1), by omega, (hI _ _ _).mpr ⟨k + 1, by omega, rfl, by omega, hg'⟩⟩⟩)
  have hK : ∀ (g : AH) (D : DT), Lpq g zz x1 y1 o1 a n f D D → K g := fun g D h => hK g ⟨D, h⟩
  clear hI hi9
  rw [L.fa]
  refine ⟨fun _ => ?_, fun _ => ?_, fun _ => ?_, fun _ => ?_, fun _ => ?_, fun _ => ?_, fun _ => ?_, fun _ => ?_, fun _ => ?_, fun _ => ?_, fun _ => ?_, fun _ => ?_, fun _ => ?_, fun _ => ?_, fun _ => ?_, fun _ => ?_, fun _ => ?_, fun _ => ?_, fun _ => ?_, fun _ => ?_, fun _ => hK g D L⟩
  · refine ⟨L.xa, c_begin L.1 (fun h1 G1 C1 => ?_)⟩
    have L2 := L.x G1 C1
    refine ⟨L2.ya, d_begin L2.2.1 (fun h3 G3 R3 e3 => ?_)⟩
    have L3 := L2.y G3 R3
    exact ⟨fun _ => hK _ _ L3, fun n => absurd rfl n⟩
  · refine ⟨by unfold inR; omega, L.ai (by omega), by unfold inR; omega, L.ai (by omega), ?_⟩
    unfold w_L_set
    refine ⟨L.xa, c_set L.1 (fun hs hv h1 G1 C1 => ?_) (fun hs k9 => ?_) (fun hs hv k9 => ?_)⟩
    · have L1 : Lpq h1 zz x1 y1 o1 a n f (dSet D (f (5 * (k : Int) + 1)) (f (5 * (k : Int) + 2))) D := L.x G1 C1
      refine ⟨L1.ov, fun h2 e2 => ?_⟩
      have L2 : Lpq h2 zz x1 y1 o1 a n f (dSet D (f (5 * (k : Int) + 1)) (f (5 * (k : Int) + 2))) D := by rw [e2]; exact L1.l
      refine ⟨by unfold inR; omega, L2.ai (by omega), by unfold inR; omega, L2.ai (by omega), L2.ya, ?_⟩
      rw [L2.fa]
      refine d_set L2.2.1 (fun _ _ h3 G3 R3 e3 => ?_) (fun n => absurd hs n) (fun _ n => absurd hv n)
      · exact l_tail (L2.y G3 R3) e3 (fun _ => (L1.out (by rw [← e2]; exact G3))) (hK _ _ (L2.y G3 R3))
    · have L2 := L.b (k := k9)
      refine .inl ⟨rfl, by unfold inR; omega, L2.ai (by omega), by unfold inR; omega, L2.ai (by omega), L2.ya, ?_⟩
      rw [L2.fa]
      refine d_set L2.2.1 (fun n => absurd n hs) (fun _ h3 G3 R3 e3 => ?_) (fun n => absurd n hs)
      · exact l_tail (L2.y G3 R3) e3 (fun e => absurd e (by decide)) (hK _ _ (L2.y G3 R3))
    · have L2 := L.b (k := k9)
      refine .inr ⟨rfl, by unfold inR; omega, L2.ai (by omega), by unfold inR; omega, L2.ai (by omega), L2.ya, ?_⟩
      rw [L2.fa]
      refine d_set L2.2.1 (fun _ n => absurd n hv) (fun n => absurd hs n) (fun _ _ h3 G3 R3 e3 => ?_)
      · exact l_tail (L2.y G3 R3) e3 (fun e => absurd e (by decide)) (hK _ _ (L2.y G3 R3))
  · refine ⟨by unfold inR; omega, L.ai (by omega), ?_⟩
    unfold w_L_load
    refine ⟨L.xa, c_load L.1 (fun ht he h1 G1 C1 => ?_) (fun ht k9 => ?_) (fun ht he h1 G1 C1 => ?_)⟩
    · have L1 : Lpq h1 zz x1 y1 o1 a n f (dLoad D (f (5 * (k : Int) + 1))) D := L.x G1 C1
      refine ⟨L1.ov, fun h2 e2 => ?_⟩
      have L2 : Lpq h2 zz x1 y1 o1 a n f (dLoad D (f (5 * (k : Int) + 1))) D := by rw [e2]; exact L1.l
      refine ⟨by unfold inR; omega, L2.ai (by omega), L2.ya, ?_⟩
      rw [L2.fa]
      refine d_load L2.2.1 (fun _ _ h3 G3 R3 e3 => ?_) (fun n => absurd ht n) (fun _ n => absurd he n)
      · exact l_tail (L2.y G3 R3) e3 (fun _ => (L1.out (by rw [← e2]; exact G3))) (hK _ _ (L2.y G3 R3))
    · have L2 := L.b (k := k9)
      refine .inl ⟨rfl, by unfold inR; omega, L2.ai (by omega), L2.ya, ?_⟩
      rw [L2.fa]
      refine d_load L2.2.1 (fun n => absurd n ht) (fun _ h3 G3 R3 e3 => ?_) (fun n => absurd n ht)
      · exact l_tail (L2.y G3 R3) e3 (fun e => absurd e (by decide)) (hK _ _ (L2.y G3 R3))
    · have L2 := L.x G1 C1
      refine .inr ⟨rfl, by unfold inR; omega, L2.ai (by omega), L2.ya, ?_⟩
      rw [L2.fa]
      refine d_load L2.2.1 (fun _ n => absurd n he) (fun n => absurd ht n) (fun _ _ h3 G3 R3 e3 => ?_)
      · exact l_tail (L2.y G3 R3) e3 (fun e => absurd e (by decide)) (hK _ _ (L2.y G3 R3))
  · refine ⟨by unfold inR; omega, L.ai (by omega), by unfold inR; omega, L.ai (by omega), by unfold inR; omega, L.ai (by omega), by unfold inR; omega, L.ai (by omega), ?_⟩
    unfold w_L_put
    refine ⟨L.xa, c_put L.1 (fun ht hc hl hb h1 G1 C1 => ?_) (fun hh k9 => ?_) (fun hh hl k9 => ?_) (fun hh hl hb k9 => ?_)⟩
    · have L1 : Lpq h1 zz x1 y1 o1 a n f (dPut D (f (5 * (k : Int) + 1)) (16 * f (5 * (k : Int) + 2) + f (5 * (k : Int) + 3)).toNat (f (5 * (k : Int) + 4))) D := L.x G1 C1
      refine ⟨L1.ov, fun h2 e2 => ?_⟩
      have L2 : Lpq h2 zz x1 y1 o1 a n f (dPut D (f (5 * (k : Int) + 1)) (16 * f (5 * (k : Int) + 2) + f (5 * (k : Int) + 3)).toNat (f (5 * (k : Int) + 4))) D := by rw [e2]; exact L1.l
      refine ⟨by unfold inR; omega, L2.ai (by omega), by unfold inR; omega, L2.ai (by omega), by unfold inR; omega, L2.ai (by omega), by unfold inR; omega, L2.ai (by omega), L2.ya, ?_⟩
      rw [L2.fa]
      refine d_put L2.2.1 (fun _ _ _ _ h3 G3 R3 e3 => ?_) (fun n => absurd ⟨ht, hc⟩ n) (fun _ n => absurd hl n) (fun _ _ n => absurd n hb)
      · exact l_tail (L2.y G3 R3) e3 (fun _ => (L1.out (by rw [← e2]; exact G3))) (hK _ _ (L2.y G3 R3))
    · have L2 := L.b (k := k9)
      refine .inl ⟨rfl, by unfold inR; omega, L2.ai (by omega), by unfold inR; omega, L2.ai (by omega), by unfold inR; omega, L2.ai (by omega), by unfold inR; omega, L2.ai (by omega), L2.ya, ?_⟩
      rw [L2.fa]
      refine d_put L2.2.1 (fun a1 a2 => absurd ⟨a1, a2⟩ hh) (fun _ h3 G3 R3 e3 => ?_) (fun n => absurd n hh) (fun n => absurd n hh)
      · exact l_tail (L2.y G3 R3) e3 (fun e => absurd e (by decide)) (hK _ _ (L2.y G3 R3))
    · have L2 := L.b (k := k9)
      refine .inr (.inl ⟨rfl, by unfold inR; omega, L2.ai (by omega), by unfold inR; omega, L2.ai (by omega), by unfold inR; omega, L2.ai (by omega), by unfold inR; omega, L2.ai (by omega), L2.ya, ?_⟩)
      rw [L2.fa]
      refine d_put L2.2.1 (fun _ _ n => absurd n hl) (fun n => absurd hh n) (fun _ _ h3 G3 R3 e3 => ?_) (fun _ n => absurd n hl)
      · exact l_tail (L2.y G3 R3) e3 (fun e => absurd e (by decide)) (hK _ _ (L2.y G3 R3))
    · have L2 := L.b (k := k9)
      refine .inr (.inr ⟨rfl, by unfold inR; omega, L2.ai (by omega), by unfold inR; omega, L2.ai (by omega), by unfold inR; omega, L2.ai (by omega), by unfold inR; omega, L2.ai (by omega), L2.ya, ?_⟩)
      rw [L2.fa]
      refine d_put L2.2.1 (fun _ _ _ n => absurd hb n) (fun n => absurd hh n) (fun _ n => absurd hl n) (fun _ _ _ h3 G3 R3 e3 => ?_)
      · exact l_tail (L2.y G3 R3) e3 (fun e => absurd e (by decide)) (hK _ _ (L2.y G3 R3))
  · refine ⟨L.xa, c_swap L.1 (fun F1 h1 G1 C1 i1 => ?_)⟩
    have L2 := L.x G1 C1
    refine ⟨L2.ya, d_swap L2.2.1 (fun F3 h3 G3 R3 i3 e3 => ?_)⟩
    have L3 := L2.y G3 R3
    obtain rfl := isFF_u i1 i3
    exact ⟨fun _ => hK _ _ L3, fun n => absurd rfl n⟩
  · unfold w_L_undo
    refine ⟨L.xa, c_undo L.1 (fun hn h1 G1 C1 => ?_) (fun hn k9 => ?_)⟩
    · have L1 : Lpq h1 zz x1 y1 o1 a n f (dUndo D) D := L.x G1 C1
      refine ⟨L1.ov, fun h2 e2 => ?_⟩
      have L2 : Lpq h2 zz x1 y1 o1 a n f (dUndo D) D := by rw [e2]; exact L1.l
      refine ⟨L2.ya, ?_⟩
      refine d_undo L2.2.1 (fun _ h3 G3 R3 e3 => ?_) (fun n => absurd hn n)
      · exact l_tail (L2.y G3 R3) e3 (fun _ => (L1.out (by rw [← e2]; exact G3))) (hK _ _ (L2.y G3 R3))
    · have L2 := L.b (k := k9)
      refine ⟨rfl, L2.ya, ?_⟩
      refine d_undo L2.2.1 (fun n => absurd n hn) (fun _ h3 G3 R3 e3 => ?_)
      · exact l_tail (L2.y G3 R3) e3 (fun e => absurd e (by decide)) (hK _ _ (L2.y G3 R3))
  · refine ⟨by unfold inR; omega, L.ai (by omega), ?_⟩
    unfold w_L_append
    refine ⟨L.xa, c_append L.1 (fun hc hl h1 G1 C1 => ?_) (fun hc k9 => ?_) (fun hc hl k9 => ?_)⟩
    · have L1 : Lpq h1 zz x1 y1 o1 a n f (dApp D (f (5 * (k : Int) + 1))) D := L.x G1 C1
      refine ⟨L1.ov, fun h2 e2 => ?_⟩
      have L2 : Lpq h2 zz x1 y1 o1 a n f (dApp D (f (5 * (k : Int) + 1))) D := by rw [e2]; exact L1.l
      refine ⟨by unfold inR; omega, L2.ai (by omega), L2.ya, ?_⟩
      rw [L2.fa]
      refine d_append L2.2.1 (fun _ _ h3 G3 R3 e3 => ?_) (fun n => absurd hc n) (fun _ n => absurd hl n)
      · exact l_tail (L2.y G3 R3) e3 (fun _ => (L1.out (by rw [← e2]; exact G3))) (hK _ _ (L2.y G3 R3))
    · have L2 := L.b (k := k9)
      refine .inl ⟨rfl, by unfold inR; omega, L2.ai (by omega), L2.ya, ?_⟩
      rw [L2.fa]
      refine d_append L2.2.1 (fun n => absurd n hc) (fun _ h3 G3 R3 e3 => ?_) (fun n => absurd n hc)
      · exact l_tail (L2.y G3 R3) e3 (fun e => absurd e (by decide)) (hK _ _ (L2.y G3 R3))
    · have L2 := L.b (k := k9)
      refine .inr ⟨rfl, by unfold inR; omega, L2.ai (by omega), L2.ya, ?_⟩
      rw [L2.fa]
      refine d_append L2.2.1 (fun _ n => absurd n hl) (fun n => absurd hc n) (fun _ _ h3 G3 R3 e3 => ?_)
      · exact l_tail (L2.y G3 R3) e3 (fun e => absurd e (by decide)) (hK _ _ (L2.y G3 R3))
  · refine ⟨L.xa, c_clear L.1 (fun h1 G1 C1 => ?_)⟩
    have L2 := L.x G1 C1
    refine ⟨L2.ya, d_clear L2.2.1 (fun h3 G3 R3 e3 => ?_)⟩
    have L3 := L2.y G3 R3
    exact ⟨fun _ => hK _ _ L3, fun n => absurd rfl n⟩
  · refine ⟨L.xa, c_firstError L.1 (fun h1 G1 C1 => ?_)⟩
    have L2 := L.x G1 C1
    refine ⟨L2.ya, d_firstError L2.2.1 (fun h3 G3 R3 e3 => ?_)⟩
    have L3 := L2.y G3 R3
    exact ⟨fun _ => hK _ _ L3, fun n => absurd rfl n⟩
  · refine ⟨by unfold inR; omega, L.ai (by omega), by unfold inR; omega, L.ai (by omega), by unfold inR; omega, L.ai (by omega), ?_⟩
    unfold w_L_letter
    refine ⟨L.xa, c_letter L.1 (fun ht hi hv h1 G1 C1 => ?_) (fun hh k9 => ?_) (fun hh hv k9 => ?_)⟩
    · have L1 : Lpq h1 zz x1 y1 o1 a n f D D := L.x G1 C1
      refine ⟨L1.ov, fun h2 e2 => ?_⟩
      have L2 : Lpq h2 zz x1 y1 o1 a n f D D := by rw [e2]; exact L1.l
      refine ⟨by unfold inR; omega, L2.ai (by omega), by unfold inR; omega, L2.ai (by omega), by unfold inR; omega, L2.ai (by omega), L2.ya, ?_⟩
      rw [L2.fa]
      refine d_letter L2.2.1 (fun _ _ _ h3 G3 R3 e3 => ?_) (fun n => absurd ⟨ht, hi⟩ n) (fun _ n => absurd hv n)
      · exact l_tail (L2.y G3 R3) e3 (fun _ => (L1.out (by rw [← e2]; exact G3))) (hK _ _ (L2.y G3 R3))
    · have L2 := L.b (k := k9)
      refine .inl ⟨rfl, by unfold inR; omega, L2.ai (by omega), by unfold inR; omega, L2.ai (by omega), by unfold inR; omega, L2.ai (by omega), L2.ya, ?_⟩
      rw [L2.fa]
      refine d_letter L2.2.1 (fun a1 a2 => absurd ⟨a1, a2⟩ hh) (fun _ h3 G3 R3 e3 => ?_) (fun n => absurd n hh)
      · exact l_tail (L2.y G3 R3) e3 (fun e => absurd e (by decide)) (hK _ _ (L2.y G3 R3))
    · have L2 := L.b (k := k9)
      refine .inr ⟨rfl, by unfold inR; omega, L2.ai (by omega), by unfold inR; omega, L2.ai (by omega), by unfold inR; omega, L2.ai (by omega), L2.ya, ?_⟩
      rw [L2.fa]
      refine d_letter L2.2.1 (fun _ _ n => absurd n hv) (fun n => absurd hh n) (fun _ _ h3 G3 R3 e3 => ?_)
      · exact l_tail (L2.y G3 R3) e3 (fun e => absurd e (by decide)) (hK _ _ (L2.y G3 R3))
  · refine ⟨by unfold inR; omega, L.ai (by omega), by unfold inR; omega, L.ai (by omega), ?_⟩
    unfold w_L_way
    refine ⟨L.xa, c_way L.1 (fun hi hv F1 h1 i1 G1 C1 => ?_) (fun hi k9 => ?_) (fun hi hv k9 => ?_)⟩
    · have L1 : Lpq h1 zz x1 y1 o1 a n f D D := L.x G1 C1
      refine ⟨L1.ov, fun h2 e2 => ?_⟩
      have L2 : Lpq h2 zz x1 y1 o1 a n f D D := by rw [e2]; exact L1.l
      refine ⟨by unfold inR; omega, L2.ai (by omega), by unfold inR; omega, L2.ai (by omega), L2.ya, ?_⟩
      rw [L2.fa]
      refine d_way L2.2.1 (fun _ _ F3 h3 i3 G3 R3 e3 => ?_) (fun n => absurd hi n) (fun _ n => absurd hv n)
      · obtain rfl := isFF_u i1 i3
        exact l_tail (L2.y G3 R3) e3 (fun _ => (L1.out (by rw [← e2]; exact G3))) (hK _ _ (L2.y G3 R3))
    · have L2 := L.b (k := k9)
      refine .inl ⟨rfl, by unfold inR; omega, L2.ai (by omega), by unfold inR; omega, L2.ai (by omega), L2.ya, ?_⟩
      rw [L2.fa]
      refine d_way L2.2.1 (fun n => absurd n hi) (fun _ h3 G3 R3 e3 => ?_) (fun n => absurd n hi)
      · exact l_tail (L2.y G3 R3) e3 (fun e => absurd e (by decide)) (hK _ _ (L2.y G3 R3))
    · have L2 := L.b (k := k9)
      refine .inr ⟨rfl, by unfold inR; omega, L2.ai (by omega), by unfold inR; omega, L2.ai (by omega), L2.ya, ?_⟩
      rw [L2.fa]
      refine d_way L2.2.1 (fun _ n => absurd n hv) (fun n => absurd hi n) (fun _ _ h3 G3 R3 e3 => ?_)
      · exact l_tail (L2.y G3 R3) e3 (fun e => absurd e (by decide)) (hK _ _ (L2.y G3 R3))
  · refine ⟨by unfold inR; omega, L.ai (by omega), by unfold inR; omega, L.ai (by omega), by unfold inR; omega, L.ai (by omega), ?_⟩
    unfold w_L_at
    refine ⟨L.xa, c_at L.1 (fun F1 h1 i1 hf hc2 G1 C1 => ?_) (fun F1 h1 i1 hh G1 C1 => ?_)⟩
    · have L1 : Lpq h1 zz x1 y1 o1 a n f D D := L.x G1 C1
      refine ⟨L1.ov, fun h2 e2 => ?_⟩
      have L2 : Lpq h2 zz x1 y1 o1 a n f D D := by rw [e2]; exact L1.l
      refine ⟨by unfold inR; omega, L2.ai (by omega), by unfold inR; omega, L2.ai (by omega), by unfold inR; omega, L2.ai (by omega), L2.ya, ?_⟩
      rw [L2.fa]
      refine d_at L2.2.1 (fun F3 h3 i3 _ _ G3 R3 e3 => ?_) (fun F3 h3 i3 n => by obtain rfl := isFF_u i1 i3; exact absurd ⟨hf, hc2⟩ n)
      · obtain rfl := isFF_u i1 i3
        exact l_tail (L2.y G3 R3) e3 (fun _ => (L1.out (by rw [← e2]; exact G3))) (hK _ _ (L2.y G3 R3))
    · have L2 := L.x G1 C1
      refine ⟨rfl, by unfold inR; omega, L2.ai (by omega), by unfold inR; omega, L2.ai (by omega), by unfold inR; omega, L2.ai (by omega), L2.ya, ?_⟩
      rw [L2.fa]
      refine d_at L2.2.1 (fun F3 h3 i3 a1 a2 => by obtain rfl := isFF_u i1 i3; exact absurd ⟨a1, a2⟩ hh) (fun F3 h3 i3 _ G3 R3 e3 => ?_)
      · exact l_tail (L2.y G3 R3) e3 (fun e => absurd e (by decide)) (hK _ _ (L2.y G3 R3))
  · refine ⟨by unfold inR; omega, L.ai (by omega), by unfold inR; omega, L.ai (by omega), ?_⟩
    unfold w_L_place
    refine ⟨L.xa, c_place L.1 (fun F1 h1 i1 hf hc2 G1 C1 => ?_) (fun F1 h1 i1 hh G1 C1 => ?_)⟩
    · have L1 : Lpq h1 zz x1 y1 o1 a n f D D := L.x G1 C1
      refine ⟨L1.ov, fun h2 e2 => ?_⟩
      have L2 : Lpq h2 zz x1 y1 o1 a n f D D := by rw [e2]; exact L1.l
      refine ⟨by unfold inR; omega, L2.ai (by omega), by unfold inR; omega, L2.ai (by omega), L2.ya, ?_⟩
      rw [L2.fa]
      refine d_place L2.2.1 (fun F3 h3 i3 _ _ G3 R3 e3 => ?_) (fun F3 h3 i3 n => by obtain rfl := isFF_u i1 i3; exact absurd ⟨hf, hc2⟩ n)
      · obtain rfl := isFF_u i1 i3
        exact l_tail (L2.y G3 R3) e3 (fun _ => (L1.out (by rw [← e2]; exact G3))) (hK _ _ (L2.y G3 R3))
    · have L2 := L.x G1 C1
      refine ⟨rfl, by unfold inR; omega, L2.ai (by omega), by unfold inR; omega, L2.ai (by omega), L2.ya, ?_⟩
      rw [L2.fa]
      refine d_place L2.2.1 (fun F3 h3 i3 a1 a2 => by obtain rfl := isFF_u i1 i3; exact absurd ⟨a1, a2⟩ hh) (fun F3 h3 i3 _ G3 R3 e3 => ?_)
      · exact l_tail (L2.y G3 R3) e3 (fun e => absurd e (by decide)) (hK _ _ (L2.y G3 R3))
  · refine ⟨by unfold inR; omega, L.ai (by omega), by unfold inR; omega, L.ai (by omega), ?_⟩
    unfold w_L_frame
    refine ⟨L.xa, c_frame L.1 (fun F1 h1 i1 hf hv G1 C1 => ?_) (fun F1 h1 i1 hf G1 C1 => ?_) (fun F1 h1 i1 hf hv G1 C1 => ?_)⟩
    · have L1 : Lpq h1 zz x1 y1 o1 a n f D D := L.x G1 C1
      refine ⟨L1.ov, fun h2 e2 => ?_⟩
      have L2 : Lpq h2 zz x1 y1 o1 a n f D D := by rw [e2]; exact L1.l
      refine ⟨by unfold inR; omega, L2.ai (by omega), by unfold inR; omega, L2.ai (by omega), L2.ya, ?_⟩
      rw [L2.fa]
      refine d_frame L2.2.1 (fun F3 h3 i3 _ _ G3 R3 e3 => ?_) (fun F3 h3 i3 n => by obtain rfl := isFF_u i1 i3; exact absurd hf n) (fun F3 h3 i3 _ n => absurd hv n)
      · obtain rfl := isFF_u i1 i3
        exact l_tail (L2.y G3 R3) e3 (fun _ => (L1.out (by rw [← e2]; exact G3))) (hK _ _ (L2.y G3 R3))
    · have L2 := L.x G1 C1
      refine .inl ⟨rfl, by unfold inR; omega, L2.ai (by omega), by unfold inR; omega, L2.ai (by omega), L2.ya, ?_⟩
      rw [L2.fa]
      refine d_frame L2.2.1 (fun F3 h3 i3 n => by obtain rfl := isFF_u i1 i3; exact absurd n hf) (fun F3 h3 i3 _ G3 R3 e3 => ?_) (fun F3 h3 i3 n => by obtain rfl := isFF_u i1 i3; exact absurd n hf)
      · exact l_tail (L2.y G3 R3) e3 (fun e => absurd e (by decide)) (hK _ _ (L2.y G3 R3))
    · have L2 := L.x G1 C1
      refine .inr ⟨rfl, by unfold inR; omega, L2.ai (by omega), by unfold inR; omega, L2.ai (by omega), L2.ya, ?_⟩
      rw [L2.fa]
      refine d_frame L2.2.1 (fun F3 h3 i3 _ n => absurd n hv) (fun F3 h3 i3 n => by obtain rfl := isFF_u i1 i3; exact absurd hf n) (fun F3 h3 i3 _ _ G3 R3 e3 => ?_)
      · exact l_tail (L2.y G3 R3) e3 (fun e => absurd e (by decide)) (hK _ _ (L2.y G3 R3))
  · refine ⟨by unfold inR; omega, L.ai (by omega), ?_⟩
    unfold w_L_count
    refine ⟨L.xa, c_count L.1 (fun hv F1 h1 i1 G1 C1 => ?_) (fun hv k9 => ?_)⟩
    · have L1 : Lpq h1 zz x1 y1 o1 a n f D D := L.x G1 C1
      refine ⟨L1.ov, fun h2 e2 => ?_⟩
      have L2 : Lpq h2 zz x1 y1 o1 a n f D D := by rw [e2]; exact L1.l
      refine ⟨by unfold inR; omega, L2.ai (by omega), L2.ya, ?_⟩
      rw [L2.fa]
      refine d_count L2.2.1 (fun _ F3 h3 i3 G3 R3 e3 => ?_) (fun n => absurd hv n)
      · obtain rfl := isFF_u i1 i3
        exact l_tail (L2.y G3 R3) e3 (fun _ => (L1.out (by rw [← e2]; exact G3))) (hK _ _ (L2.y G3 R3))
    · have L2 := L.b (k := k9)
      refine ⟨rfl, by unfold inR; omega, L2.ai (by omega), L2.ya, ?_⟩
      rw [L2.fa]
      refine d_count L2.2.1 (fun n => absurd n hv) (fun _ h3 G3 R3 e3 => ?_)
      · exact l_tail (L2.y G3 R3) e3 (fun e => absurd e (by decide)) (hK _ _ (L2.y G3 R3))
  · refine ⟨by unfold inR; omega, L.ai (by omega), ?_⟩
    unfold w_L_setting
    refine ⟨L.xa, c_setting L.1 (fun hs => ?_) (fun hs k9 => ?_)⟩
    · have L1 : Lpq g zz x1 y1 o1 a n f D D := L
      refine ⟨L1.ov, fun h2 e2 => ?_⟩
      have L2 : Lpq h2 zz x1 y1 o1 a n f D D := by rw [e2]; exact L1.l
      refine ⟨by unfold inR; omega, L2.ai (by omega), L2.ya, ?_⟩
      rw [L2.fa]
      refine d_setting L2.2.1 (fun _ h3 G3 R3 e3 => ?_) (fun n => absurd hs n)
      · exact l_tail (L2.y G3 R3) e3 (fun _ => (L1.out (by rw [← e2]; exact G3))) (hK _ _ (L2.y G3 R3))
    · have L2 := L.b (k := k9)
      refine ⟨rfl, by unfold inR; omega, L2.ai (by omega), L2.ya, ?_⟩
      rw [L2.fa]
      refine d_setting L2.2.1 (fun n => absurd n hs) (fun _ h3 G3 R3 e3 => ?_)
      · exact l_tail (L2.y G3 R3) e3 (fun e => absurd e (by decide)) (hK _ _ (L2.y G3 R3))
  · refine ⟨by unfold inR; omega, L.ai (by omega), by unfold inR; omega, L.ai (by omega), by unfold inR; omega, L.ai (by omega), ?_⟩
    unfold w_L_ifSet
    refine ⟨L.xa, c_ifSet L.1 (fun hs hv F1 h1 i1 G1 C1 => ?_) (fun hs k9 => ?_) (fun hs hv k9 => ?_)⟩
    · have L1 : Lpq h1 zz x1 y1 o1 a n f D D := L.x G1 C1
      refine ⟨L1.ov, fun h2 e2 => ?_⟩
      have L2 : Lpq h2 zz x1 y1 o1 a n f D D := by rw [e2]; exact L1.l
      refine ⟨by unfold inR; omega, L2.ai (by omega), by unfold inR; omega, L2.ai (by omega), by unfold inR; omega, L2.ai (by omega), L2.ya, ?_⟩
      rw [L2.fa]
      refine d_ifSet L2.2.1 (fun _ _ F3 h3 i3 G3 R3 e3 => ?_) (fun n => absurd hs n) (fun _ n => absurd hv n)
      · obtain rfl := isFF_u i1 i3
        exact l_tail (L2.y G3 R3) e3 (fun _ => (L1.out (by rw [← e2]; exact G3))) (hK _ _ (L2.y G3 R3))
    · have L2 := L.b (k := k9)
      refine .inl ⟨rfl, by unfold inR; omega, L2.ai (by omega), by unfold inR; omega, L2.ai (by omega), by unfold inR; omega, L2.ai (by omega), L2.ya, ?_⟩
      rw [L2.fa]
      refine d_ifSet L2.2.1 (fun n => absurd n hs) (fun _ h3 G3 R3 e3 => ?_) (fun n => absurd n hs)
      · exact l_tail (L2.y G3 R3) e3 (fun e => absurd e (by decide)) (hK _ _ (L2.y G3 R3))
    · have L2 := L.b (k := k9)
      refine .inr ⟨rfl, by unfold inR; omega, L2.ai (by omega), by unfold inR; omega, L2.ai (by omega), by unfold inR; omega, L2.ai (by omega), L2.ya, ?_⟩
      rw [L2.fa]
      refine d_ifSet L2.2.1 (fun _ n => absurd n hv) (fun n => absurd hs n) (fun _ _ h3 G3 R3 e3 => ?_)
      · exact l_tail (L2.y G3 R3) e3 (fun e => absurd e (by decide)) (hK _ _ (L2.y G3 R3))
  · refine ⟨L.xa, c_best L.1 (fun h1 F1 => ?_)⟩
    have L2 := L.x (F1.ga (by omega) (by omega)) (L.1.fr F1 (by omega))
    refine ⟨L2.ya, d_best L2.2.1 (fun h3 G3 R3 => ?_)⟩
    have L3 := L2.y G3 R3
    exact ⟨fun _ => hK _ _ L3, fun n => absurd rfl n⟩
  · refine ⟨L.xa, c_likeness L.1 (fun F1 h1 G1 C1 => ?_)⟩
    have L2 := L.x G1 C1.1
    refine ⟨L2.ya, d_likeness L2.2.1 (fun h3 G3 R3 => ?_)⟩
    have L3 := L2.y G3 R3
    have eq := likA_eq (st := D.1.2.2) L3.1.2.2.2.1.1 L3.1.2.2.2.1.2.1
    rw [jn_def, eq]
    exact ⟨fun _ => hK _ _ L3, fun n => absurd (by decide) n⟩
  · refine ⟨L.xa, c_digest L.1 (fun F1 h1 i1 G1 C1 => ?_)⟩
    have L2 := L.x G1 C1
    refine ⟨L2.ya, d_digest L2.2.1 (fun F3 h3 i3 G3 R3 => ?_)⟩
    have L3 := L2.y G3 R3
    obtain rfl := isFF_u i1 i3
    exact ⟨fun _ => hK _ _ L3, fun n => absurd (lg_self _) n⟩
