/-! SECOND LAW, 15: a text as it is written -/
def dT3 (d : D3) (w : Nat) (c : Nat → Int) : D3 := if w = 0 then (c, d.2.1, d.2.2) else (d.1, c, d.2.2)
def LK3 (h : AH) (b : Nat) (d : D3) : Prop := LK h b d.1 d.2.1 d.2.2
theorem LK.put {h g : AH} {b w : Nat} {d : D3} {c : Nat → Int} (hw : w < 2) (K : LK3 h b d) (kd : ∀ r, b ≤ r → r < b + 4 → hkd g r = hkd h r) (lo : hlo g = hlo h) (T : TxL g (b + w) c) (dv : haI g (b + 2) (w : Int) = (Nc c : Int)) (dj : ∀ j : Int, j ≠ (w : Int) → haI g (b + 2) j = haI h (b + 2) j) (ot : ∀ r, b ≤ r → r < b + 4 → r ≠ b + w → r ≠ b + 2 → haI g r = haI h r) (n8 : Nc c ≤ 8) (G : GC c) : LK3 g b (dT3 d w c) := by
  obtain ⟨⟨T0, T1⟩, ⟨k2, d0, d1⟩, ⟨k3, ts⟩, l0, ⟨m0, m1⟩, G0, G1, Gs⟩ := K
  have hw2 : w = 0 ∨ w = 1 := by omega
  have se : hkd g (b + 3) = (1, 8) ∧ ∀ k : Nat, k < 8 → haI g (b + 3) k = d.2.2 k := ⟨by rw [kd _ (by omega) (by omega)]; exact k3, fun k hk => by rw [ot (b + 3) (by omega) (by omega) (by omega) (by omega)]; exact ts k hk⟩
  have k2' : hkd g (b + 2) = (1, 3) := by rw [kd _ (by omega) (by omega)]; exact k2
  rcases hw2 with rfl | rfl
  · have e : dT3 d 0 c = (c, d.2.1, d.2.2) := if_pos rfl
    rw [e]
    refine ⟨⟨T, ⟨by rw [kd _ (by omega) (by omega)]; exact T1.1, fun i hi => by rw [ot (b + 1) (by omega) (by omega) (by omega) (by omega)]; exact T1.2 i hi⟩⟩, ⟨k2', dv, ?_⟩, se, by rw [lo]; exact l0, ⟨n8, m1⟩, G, G1, Gs⟩
    rw [dj 1 (by omega)]; exact d1
  · have e : dT3 d 1 c = (d.1, c, d.2.2) := if_neg (by omega)
    rw [e]
    refine ⟨⟨⟨by rw [kd _ (by omega) (by omega)]; exact T0.1, fun i hi => by rw [ot b (by omega) (by omega) (by omega) (by omega)]; exact T0.2 i hi⟩, T⟩, ⟨k2', ?_, dv⟩, se, by rw [lo]; exact l0, ⟨m0, n8⟩, G0, G, Gs⟩
    rw [dj 0 (by omega)]; exact d0
theorem dTxt_3 {D : DT} {w : Nat} {c : Nat → Int} : dTxt D (w : Int) c = dT3 D.1 w c := by
  unfold dTxt dT3
  by_cases e : w = 0
  · rw [if_pos (by omega), if_pos e]
  · rw [if_neg (by omega), if_neg e]
theorem rR_ext {f g : Nat → Int} : ∀ k, (∀ j, j < k → f j = g j) → rR f k = rR g k := by
  intro k
  induction k with
  | zero => intro _; rfl
  | succ k ih =>
    intro h
    show rst (rR f k) (f k) = rst (rR g k) (g k)
    rw [ih (fun j hj => h j (by omega)), h k (by omega)]
theorem cn_tail {c : Nat → Int} {p : Nat} : ∀ d, (∀ q, p ≤ q → q < p + d → c q = 32) → cn c (p + d) = cn c p := by
  intro d
  induction d with
  | zero => intro _; rfl
  | succ d ih =>
    intro h
    show cn c (p + d + 1) = _
    rw [cn_s, if_pos (h (p + d) (by omega) (by omega)), ih (fun q h1 h2 => h q h1 (by omega))]
    rfl
/-- one more sign -/
theorem rR_app {buf : Nat → Int} {len : Nat} {ch : Int} (ok : ∀ j, j < len → rok (rR buf j) (buf j) = true) (h : rok (rR buf len) ch = true) : rR (un buf len ch) (len + 1) = rst (rR buf len) ch ∧ ∀ j, j < len + 1 → rok (rR (un buf len ch) j) (un buf len ch j) = true := by
  have e : ∀ k, k ≤ len → rR (un buf len ch) k = rR buf k := fun k hk => rR_ext k (fun j hj => un_n (by omega))
  constructor
  · show rst (rR (un buf len ch) len) (un buf len ch len) = _
    rw [e len (Nat.le_refl _), un_s]
  · intro j hj
    rw [e j (by omega)]
    by_cases ej : j = len
    · rw [ej, un_s]; exact h
    · rw [un_n ej]; exact ok j (by omega)
theorem Ga.wide {h h' : AH} {a b c d : Nat} (x : Ga h h' a b) (h1 : c ≤ a) (h2 : b ≤ d) : Ga h h' c d := ⟨x.1, x.2.1, x.2.2.1, fun q hq => x.2.2.2 q (by omega)⟩
theorem dsv_n {D E : DT} (h : E.2.2.1 = D.2.2.1) : (dsv E).2.2.1 = (dsv D).2.2.1 := by
  unfold dsv
  rw [h]
  split
  · rfl
  · rfl
set_option maxHeartbeats 4000000 in
theorem l_load {zz : Nat → Nat} {x w : Nat} {xx yy : Int} {h : AH} {Q : Int → AH → Prop} {D : DT} (C : CR h zz x D) (K : LK3 h (x + 113) D.1) (hw : w < 2) (q : ∀ (h' : AH) (D' : DT), Ga h h' x (x + 117) → CR h' zz x D' → LK3 h' (x + 113) D'.1 → D'.2.2.1 = (dsv D).2.2.1 → Q 1 h') : w_L_load zz x (w : Int) xx yy (x + 113 + w) (x + 113 + 2) h Q := by
  obtain ⟨b, hb⟩ : ∃ b, b = x + 113 := ⟨_, rfl⟩
  have kd := K.2.1.1
  have lo := K.2.2.2.1
  have X : ∀ (g : AH) (E : DT), CR g zz x E → okA g x 6 := fun g E Cg => by rw [okA_of Cg.1.1]
  have kt : hkd h (x + 113 + w) = (1, 18) := by
    have : w = 0 ∨ w = 1 := by omega
    rcases this with rfl | rfl
    · exact K.1.1.1
    · exact K.1.2.1
  rw [← hb] at K kd lo kt ⊢
  obtain ⟨S, hS⟩ : ∃ S : AH → (Nat → Int) → Nat → Prop, ∀ g buf len, S g buf len ↔ CR g zz x (D.1, D.2.1, D.2.2.1, buf, len) ∧ Ga h g x (x + 117) ∧ (∀ j : Int, j ≠ (w : Int) → haI g (b + 2) j = haI h (b + 2) j) ∧ (∀ r, b ≤ r → r ≠ b + w → r ≠ b + 2 → haI g r = haI h r) ∧ TxL g (b + w) (rR buf len).2.2.2 ∧ haI g (b + 2) (w : Int) = (Nc (rR buf len).2.2.2 : Int) ∧ Nc (rR buf len).2.2.2 ≤ 8 ∧ ∀ j, j < len → rok (rR buf j) (buf j) = true := ⟨_, fun _ _ _ => Iff.rfl⟩
  -- a sign that is no letter
  have app : ∀ (g : AH) (buf : Nat → Int) (len : Nat) (ch : Int) (Q3 : Int → AH → Prop), S g buf len → (33 ≤ ch ∧ ch ≤ 126) → len < 60 → (∀ g' : AH, Ga g g' x (x + 113) → CR g' zz x (D.1, D.2.1, D.2.2.1, un buf len ch, len + 1) → Q3 ((len + 1 : Nat) : Int) g') → w_X6_append zz x ch g Q3 (fun _ _ => False) := by
    intro g buf len ch Q3 s h1 h2 q3
    exact c_append ((hS _ _ _).mp s).1 (fun _ _ g' G' C' => q3 g' G' C') (fun hno _ => hno h1) (fun _ hno _ => hno h2)
  have keep : ∀ (g g' : AH) (buf : Nat → Int) (len : Nat) (ch : Int), S g buf len → rok (rR buf len) ch = true → (ch = 47 ∨ ch = 46) → Ga g g' x (x + 113) → CR g' zz x (D.1, D.2.1, D.2.2.1, un buf len ch, len + 1) → S g' (un buf len ch) (len + 1) := by
    intro g g' buf len ch s hok hch G' C'
    obtain ⟨s1, s2, s3, s4, s5, s6, s7, s8⟩ := (hS _ _ _).mp s
    obtain ⟨r1, r2⟩ := rR_app s8 hok
    have r3 : (rst (rR buf len) ch).2.2.2 = (rR buf len).2.2.2 := by
      unfold rst
      rcases hch with rfl | rfl
      · rfl
      · rfl
    have ai : ∀ r, b ≤ r → haI g' r = haI g r := fun r hr => (G'.2.2.2 r (by omega)).2.2.2.1
    refine (hS _ _ _).mpr ⟨C', s2.trans (G'.wide (Nat.le_refl _) (by omega)), fun j hj => by rw [ai _ (by omega)]; exact s3 j hj, fun r h1 h2 h3 => by rw [ai _ h1]; exact s4 r h1 h2 h3, ?_, ?_, ?_, r2⟩
    · rw [r1, r3]
      exact ⟨by rw [G'.1]; exact s5.1, fun i hi => by rw [ai _ (by omega)]; exact s5.2 i hi⟩
    · rw [r1, r3, ai _ (by omega)]; exact s6
    · rw [r1, r3]; exact s7
  unfold w_L_load
  rw [okW_of kd]
  refine ⟨⟨by omega, by omega, by omega⟩, fun g1 e1 => ?_⟩
  have F1 : Fr h g1 (b + 2) (b + 3) := by rw [e1]; exact Fr.sa (by omega) (by omega)
  have C1 : CR g1 zz x D := C.out F1 (by omega)
  refine ⟨X g1 D C1, c_clear C1 (fun g2 G2 C2 => ?_)⟩
  have S0 : S g2 D.2.2.2.1 0 := by
    have ai : ∀ r, b ≤ r → haI g2 r = haI g1 r := fun r hr => (G2.2.2.2 r (by omega)).2.2.2.1
    have nz : Nc (rR D.2.2.2.1 0).2.2.2 = 0 := cn_blank (fun _ _ => rfl)
    refine (hS _ _ _).mpr ⟨C2, (F1.ga (by omega) (by omega)).trans (G2.wide (Nat.le_refl _) (by omega)), fun j hj => ?_, fun r h1 h2 h3 => ?_, ⟨?_, fun i hi => by rw [nz] at hi; omega⟩, ?_, by rw [nz]; omega, fun j hj => absurd hj (Nat.not_lt_zero _)⟩
    · rw [ai _ (by omega), e1, haI_saI, if_pos rfl, u1_apply, if_neg hj]
    · rw [ai _ h1, e1, haI_saI, if_neg h3]
    · rw [G2.1, F1.kd]; exact kt
    · rw [ai _ (by omega), e1, haI_saI, if_pos rfl, u1_apply, if_pos rfl, nz]; rfl
  refine l_at (by omega) (fun r16 a1 a2 => ?_)
  refine ⟨by unfold inR; omega, fun rows hrows => ?_⟩
  obtain ⟨I, hI⟩ : ∃ I : Nat → Int → Int → AH → Prop, ∀ m n y g, I m n y g ↔ ∃ (r : Nat) (buf : Nat → Int) (len : Nat), (r : Int) ≤ rows ∧ m = (rows - r).toNat ∧ n = (len : Int) ∧ y = (r : Int) ∧ S g buf len ∧ len ≤ 9 * r ∧ (r = 0 → (rR buf len).1 = 0 ∧ (rR buf len).2.1 = 0) ∧ (0 < r → (rR buf len).1 + 1 = (r : Int)) := ⟨_, fun _ _ _ _ => Iff.rfl⟩
  refine ⟨I, ⟨_, (hI _ _ _ _).mpr ⟨0, _, 0, by omega, rfl, rfl, rfl, S0, by omega, fun _ => ⟨rfl, rfl⟩, fun h0 => by omega⟩⟩, ?_⟩
  intro m n y g hi9
  obtain ⟨r, buf, len, hr, rfl, rfl, rfl, Sg, hlen, hr0, hr1⟩ := (hI _ _ _ _).mp hi9
  have Sg' := (hS _ _ _).mp Sg
  refine ⟨fun hc => ?_, fun hc => ?_⟩
  · obtain ⟨s1, s2, s3, s4, s5, s6, s7, s8⟩ := Sg'
    have re : rE buf len = len := rE_end s8
    refine ⟨X g _ s1, c_firstError s1 (fun g3 G3 C3 => ?_)⟩
    refine jn_in (fun K252 hK252 => ?_)
    refine jn_in (fun K251 hK251 => ?_)
    refine ⟨fun hne => absurd (congrArg Nat.cast re) hne, fun _ => ⟨X g3 _ C3, ?_⟩⟩
    refine c_load C3 (fun _ _ g4 G4 C4 => ?_) (fun hno _ => hno (by omega)) (fun _ hno _ _ _ => hno re)
    have G34 := G3.trans G4
    have kd4 : hkd g4 (b + 2) = (1, 3) := by rw [G34.1, s2.1]; exact kd
    have d4 : ∀ j : Int, haI g4 (b + 2) j = haI g (b + 2) j := fun j => by rw [(G34.2.2.2 (b + 2) (by omega)).2.2.2.1]
    rw [okI_of kd4, d4, s6]
    refine ⟨⟨by omega, by omega⟩, fun hne => absurd rfl hne, fun _ => ⟨X g4 _ C4, c_clear C4 (fun g5 G5 C5 => ?_)⟩⟩
    refine ⟨fun hne => absurd rfl hne, fun _ => ?_⟩
    rw [hK252]
    have G35 := G34.trans G5
    have ai : ∀ r, b ≤ r → haI g5 r = haI g r := fun r hr => (G35.2.2.2 r (by omega)).2.2.2.1
    refine ⟨.inr rfl, q g5 _ (s2.trans (G35.wide (Nat.le_refl _) (by omega))) C5 ?_ (dsv_n rfl)⟩
    show LK3 g5 (x + 113) (dTxt _ (w : Int) (rR buf len).2.2.2)
    rw [dTxt_3, ← hb]
    refine LK.put hw K (fun r _ _ => by rw [G35.1, s2.1]) (by rw [G35.2.1, s2.2.1]) ⟨by rw [G35.1]; exact s5.1, fun i hi => by rw [ai _ (by omega)]; exact s5.2 i hi⟩ (by rw [ai _ (by omega)]; exact s6) (fun j hj => by rw [ai _ (by omega)]; exact s3 j hj) (fun r h1 _ h2 h3 => by rw [ai _ h1]; exact s4 r h1 h2 h3) s7 (GC_R s8)
  have hr4 : r < 4 := by omega
  refine jn_in (fun K53 hK53 => ?_)
  have row : ∀ (g3 : AH) (buf3 : Nat → Int) (len3 : Nat), S g3 buf3 len3 → len3 ≤ 9 * r + 1 → (rR buf3 len3).1 = (r : Int) → (rR buf3 len3).2.1 = 0 → K53 (len3 : Int) g3 := by
    intro g3 buf3 len3 S3 hl3 hrow hcol
    rw [hK53]
    refine ⟨by unfold inR; omega, ⟨by omega, by omega⟩, l_at (by omega) (fun cells c1 c2 => ?_)⟩
    obtain ⟨J, hJ⟩ : ∃ J : Nat → Int → Int → AH → Prop, ∀ m n y g, J m n y g ↔ ∃ (c : Nat) (buf : Nat → Int) (len : Nat), (c : Int) ≤ cells ∧ m = (cells - c).toNat ∧ n = (len : Int) ∧ y = (c : Int) ∧ S g buf len ∧ len ≤ 9 * r + 1 + c ∧ (rR buf len).1 = (r : Int) ∧ (rR buf len).2.1 = (c : Int) := ⟨_, fun _ _ _ _ => Iff.rfl⟩
    refine ⟨J, ⟨_, (hJ _ _ _ _).mpr ⟨0, _, _, by omega, rfl, rfl, rfl, S3, by omega, hrow, hcol⟩⟩, ?_⟩
    intro m2 n2 y2 g4 hj9
    obtain ⟨c, buf4, len4, hc4, rfl, rfl, rfl, S4, hl4, hrow4, hcol4⟩ := (hJ _ _ _ _).mp hj9
    refine ⟨fun hend => ⟨by unfold inR; omega, fun u hu => ⟨_, ?_, (hI _ _ _ _).mpr ⟨r + 1, buf4, len4, by omega, rfl, rfl, by omega, S4, by omega, fun h0 => by omega, fun _ => by omega⟩⟩⟩, fun hgo => ?_⟩
    · omega
    have hc8 : c < 8 := by omega
    obtain ⟨s1, s2, s3, s4, s5, s6, s7, s8⟩ := (hS _ _ _).mp S4
    have kd4 : hkd g4 (b + 2) = (1, 3) := by rw [s2.1]; exact kd
    have kt4 : hkd g4 (b + w) = (1, 18) := by rw [s2.1]; exact kt
    have ri := rI_R len4 s8
    obtain ⟨q1, q2, q3, q4, q5, q6⟩ := ri
    rw [okI_of kd4, s6]
    refine ⟨⟨by omega, by omega⟩, ?_⟩
    refine jn_in (fun K112 hK112 => ?_)
    have go : ∀ t : Int, (t = 0 ∨ t = 1 ∧ Nc (rR buf4 len4).2.2.2 < 8) → K112 t g4 := by
      intro t ht
      rw [hK112]
      simp only
      refine jn_in (fun K143 hK143 => ?_)
      have go2 : ∀ ch : Int, (t = 0 ∧ ch = 46 ∨ t = 1 ∧ 97 ≤ ch ∧ ch ≤ 122) → K143 ch g4 := by
        intro ch hch
        rw [hK143]
        refine ⟨X g4 _ s1, app g4 buf4 len4 ch _ S4 (by omega) (by omega) (fun g5 G5 C5 => ⟨by unfold inR; omega, fun n6 hn6 => ⟨fun _ => ?_, fun hne => absurd (by omega) hne⟩⟩)⟩
        refine jn_in (fun K207 hK207 => ?_)
        have nxt : ∀ (g6 : AH) (buf6 : Nat → Int), S g6 buf6 (len4 + 1) → (rR buf6 (len4 + 1)).1 = (r : Int) → (rR buf6 (len4 + 1)).2.1 = (c : Int) + 1 → K207 g6 := by
          intro g6 buf6 S6 h1 h2
          rw [hK207]
          refine ⟨by unfold inR; omega, fun u hu => ⟨_, ?_, (hJ _ _ _ _).mpr ⟨c + 1, buf6, len4 + 1, by omega, rfl, by omega, by omega, S6, by omega, h1, by omega⟩⟩⟩
          omega
        rcases hch with ⟨ht0, rfl⟩ | ⟨ht1, hch⟩
        · have hok : rok (rR buf4 len4) 46 = true := by
            unfold rok
            rw [if_neg (by omega)]
            simp only [Bool.and_eq_true, decide_eq_true_eq, Bool.or_eq_true]
            exact ⟨by omega, .inl trivial⟩
          have r1 := (rR_app s8 hok).1
          refine ⟨fun hne => absurd ht0 hne, fun _ => nxt g5 _ (keep g4 g5 buf4 len4 46 S4 hok (.inr rfl) G5 C5) ?_ ?_⟩
          · rw [r1]; exact hrow4
          · rw [r1]; show (rR buf4 len4).2.1 + 1 = _; omega
        · have n7 : Nc (rR buf4 len4).2.2.2 < 8 := by
            rcases ht with h | h
            · omega
            · exact h.2
          have hok : rok (rR buf4 len4) ch = true := by
            unfold rok
            rw [if_neg (by omega)]
            simp only [Bool.and_eq_true, decide_eq_true_eq, Bool.or_eq_true]
            have q6' : (Nc (rR buf4 len4).2.2.2 : Int) = (rR buf4 len4).2.2.1 := q6
            exact ⟨by omega, .inr ⟨isL_i.mpr hch, by omega⟩⟩
          obtain ⟨r1, r2⟩ := rR_app s8 hok
          obtain ⟨p, hp⟩ : ∃ p : Nat, p = 16 * r + c := ⟨_, rfl⟩
          have pe : (16 * (rR buf4 len4).1 + (rR buf4 len4).2.1).toNat = p := by omega
          have rs : rst (rR buf4 len4) ch = ((rR buf4 len4).1, (rR buf4 len4).2.1 + 1, (rR buf4 len4).2.2.1 + 1, un (rR buf4 len4).2.2.2 p ch) := by
            unfold rst
            rw [if_neg (by omega), if_neg (by omega), pe]
          have bl : ∀ a, p ≤ a → (rR buf4 len4).2.2.2 a = 32 := fun a ha => q4 a (by omega)
          have p80 : p < 80 := by omega
          have tail := cn_tail (c := (rR buf4 len4).2.2.2) (p := p) (80 - p) (fun a h1 _ => bl a h1)
          rw [show p + (80 - p) = 80 by omega] at tail
          obtain ⟨i1, i2, i3, -⟩ := Lc_ins p80 (bl p (Nat.le_refl _)) (show ch ≠ 32 by omega)
          rw [← tail] at i2 i3
          have ai5 : ∀ r, b ≤ r → haI g5 r = haI g4 r := fun r hr => (G5.2.2.2 r (by omega)).2.2.2.1
          have kd5 : hkd g5 (b + 2) = (1, 3) := by rw [G5.1]; exact kd4
          have kt5 : hkd g5 (b + w) = (1, 18) := by rw [G5.1]; exact kt4
          have lo5 : hlo g5 ≤ b := by rw [G5.2.1, s2.2.1]; exact lo
          have d5 : haI g5 (b + 2) (w : Int) = (Nc (rR buf4 len4).2.2.2 : Int) := by rw [ai5 _ (by omega)]; exact s6
          refine ⟨fun _ => ?_, fun h0 => absurd h0 (by omega)⟩
          rw [okI_of kd5, okW_of kt5, d5]
          refine ⟨⟨by omega, by omega⟩, by unfold inR; omega, by unfold inR; omega, by unfold inR; omega, ⟨by omega, by omega, by omega⟩, fun g6 e6 => ?_⟩
          have kd6 : hkd g6 (b + 2) = (1, 3) := by rw [e6]; exact kd5
          have kt6 : hkd g6 (b + w) = (1, 18) := by rw [e6]; exact kt5
          have d6 : haI g6 (b + 2) = haI g5 (b + 2) := by rw [e6, haI_saI, if_neg (by omega)]
          rw [okI_of kd6, okW_of kt6, d6, d5]
          refine ⟨⟨by omega, by omega⟩, by unfold inR; omega, by unfold inR; omega, ⟨by omega, by omega, by rw [e6]; show hlo g5 ≤ _; omega⟩, fun g7 e7 => ?_⟩
          have kd7 : hkd g7 (b + 2) = (1, 3) := by rw [e7]; exact kd6
          have d7 : haI g7 (b + 2) = haI g5 (b + 2) := by rw [e7, haI_saI, if_neg (by omega)]; exact d6
          rw [okI_of kd7, okW_of kd7, d7, d5]
          refine ⟨⟨by omega, by omega⟩, by unfold inR; omega, ⟨by omega, by omega, by rw [e7, e6]; show hlo g5 ≤ _; omega⟩, fun g8 e8 => ?_⟩
          have F58 : Fr g5 g8 b (b + 3) := by
            rw [e8, e7, e6]
            exact ((Fr.sa (by omega) (by omega)).tsa (by omega) (by omega)).tsa (by omega) (by omega)
          refine nxt g8 _ ((hS _ _ _).mpr ⟨C5.out F58 (by omega), ?_, fun j hj => ?_, fun r' h1 h2 h3 => ?_, ?_, ?_, ?_, r2⟩) ?_ ?_
          · exact (s2.trans (G5.wide (Nat.le_refl _) (by omega))).trans (F58.ga (by omega) (by omega))
          · rw [e8, haI_saI, if_pos rfl, u1_apply, if_neg hj, ai5 _ (by omega)]; exact s3 j hj
          · rw [e8, haI_saI, if_neg h3, e7, haI_saI, if_neg h2, e6, haI_saI, if_neg h2, ai5 _ h1]; exact s4 r' h1 h2 h3
          · rw [r1, rs]
            refine ⟨by rw [F58.kd]; exact kt5, fun i hi => ?_⟩
            have hi : i < Nc (un (rR buf4 len4).2.2.2 p ch) := hi
            rw [i1] at hi
            rw [e8, haI_saI, if_neg (by omega), e7, haI_saI, if_pos rfl, e6, haI_saI, if_pos rfl, u1_apply, u1_apply, u1_apply, u1_apply]
            by_cases ei : i = Nc (rR buf4 len4).2.2.2
            · subst ei
              rw [if_neg (by omega), if_pos rfl, if_pos rfl]
              refine ⟨?_, ?_⟩
              · show _ = ((Lc (un (rR buf4 len4).2.2.2 p ch) (Nc (rR buf4 len4).2.2.2) : Nat) : Int)
                rw [i2]; omega
              · show ch = un (rR buf4 len4).2.2.2 p ch (Lc (un (rR buf4 len4).2.2.2 p ch) (Nc (rR buf4 len4).2.2.2))
                rw [i2, un_s]
            · rw [if_neg (by omega), if_neg (by omega), if_neg (by omega), if_neg (by omega), ai5 _ (by omega)]
              have tt := s5.2 i (by omega)
              obtain ⟨l1, l2⟩ := i3 i (by show i < Nc (rR buf4 len4).2.2.2; omega)
              refine ⟨?_, ?_⟩
              · show _ = ((Lc (un (rR buf4 len4).2.2.2 p ch) i : Nat) : Int)
                rw [l1]; exact tt.1
              · show _ = un (rR buf4 len4).2.2.2 p ch (Lc (un (rR buf4 len4).2.2.2 p ch) i)
                rw [l1, un_n (by omega)]; exact tt.2
          · rw [r1, rs, e8, haI_saI, if_pos rfl, u1_apply, if_pos rfl]
            show _ = ((Nc (un (rR buf4 len4).2.2.2 p ch) : Nat) : Int)
            rw [i1]; omega
          · rw [r1, rs]
            show Nc (un (rR buf4 len4).2.2.2 p ch) ≤ 8
            rw [i1]; omega
          · rw [r1, rs]; exact hrow4
          · rw [r1, rs]; show (rR buf4 len4).2.1 + 1 = _; omega
      rcases ht with rfl | ⟨rfl, hn8⟩
      · exact ⟨fun _ => go2 46 (.inl ⟨rfl, rfl⟩), fun h0 => absurd rfl h0⟩
      · refine ⟨fun h0 => absurd h0 (by omega), fun _ => ⟨⟨by omega, by omega⟩, by unfold inR; omega, fun v1 _ v2 _ => l_at (by omega) (fun r134 z1 z2 => ⟨by unfold inR; omega, go2 _ (.inr ⟨rfl, by omega, by omega⟩)⟩)⟩⟩
    refine jn_in (fun K111 hK111 => ?_)
    have k111 : K111 g4 := by rw [hK111]; exact go 0 (.inl rfl)
    exact ⟨fun _ => k111, fun hlt => ⟨by unfold inR; omega, ⟨by omega, by omega⟩, by unfold inR; omega, fun v1 _ v2 _ => l_at (by omega) (fun r101 z1 z2 => ⟨fun _ => k111, fun _ => go 1 (.inr ⟨rfl, by omega⟩)⟩)⟩⟩
  refine ⟨fun h0 => ?_, fun h0 => ?_⟩
  · have h00 := hr0 (by omega)
    exact row g buf len Sg (by omega) (by omega) h00.2
  · have h1 := hr1 (by omega)
    have hok : rok (rR buf len) 47 = true := by
      unfold rok
      rw [if_pos rfl]
      exact decide_eq_true (by omega)
    refine ⟨X g _ Sg'.1, app g buf len 47 _ Sg (by omega) (by omega) (fun g3 G3 C3 => ⟨by unfold inR; omega, fun n6 hn6 => ⟨fun _ => ?_, fun hne => absurd (by omega) hne⟩⟩)⟩
    have r1 := (rR_app Sg'.2.2.2.2.2.2.2 hok).1
    have z := row g3 _ (len + 1) (keep g g3 buf len 47 Sg hok (.inl rfl) G3 C3) (by omega) (by rw [r1]; show (rR buf len).1 + 1 = _; omega) (by rw [r1]; rfl)
    have e6 : n6 = ((len + 1 : Nat) : Int) := by omega
    rw [e6]; exact z
