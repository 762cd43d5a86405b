/-! THE PURE LAYER, 41: the model's digest -/
theorem fo_ext {f g : Nat → Int} {n : Nat} {a : Int64} (h : ∀ k, k < n → f k = g k) : fo f n a = fo g n a := by
  induction n with
  | zero => rfl
  | succ n ih =>
    show mx (fo f n a) (f n) = mx (fo g n a) (g n)
    rw [ih (fun k hk => h k (by omega)), h n (by omega)]
theorem MRl.sl {h : AH} {y k : Nat} {v : Int64} {D : DT} (R : MRl h y D) : MRl (sfL h y k v) y D := R
theorem MLy.sl {h : AH} {y k F : Nat} {v : Int64} {c0 c1 st : Nat → Int} (M : MLy h y c0 c1 st F) : MLy (sfL h y k v) y c0 c1 st F := M
theorem Ga.sl {h : AH} {y k : Nat} {v : Int64} : Ga h (sfL h y k v) y (y + 17) := ⟨rfl, rfl, Nat.le_refl _, fun r hr => ⟨rfl, rfl, by
  show u0 (hfL h) y _ r = _
  rw [u0_n (by omega)], rfl, rfl, rfl⟩⟩
/-- the digest so far is a -/
def DGm (h g : AH) (y : Nat) (D : DT) (F : Nat) (a : Int64) : Prop := Ga h g y (y + 17) ∧ MRl g y D ∧ MLy g y D.1.1 D.1.2.1 D.1.2.2 F ∧ hfL g y 20 = a
theorem d_mix {zz : Nat → Nat} {y F : Nat} {v : Int} {a : Int64} {h g : AH} {Q : AH → Prop} {D : DT} (S : DGm h g y D F a) (q : ∀ g' : AH, DGm h g' y D F (mx a v) → Q g') : w_X7_mix zz y (Int64.ofInt v) g Q := by
  obtain ⟨G, R, M, e⟩ := S
  unfold w_X7_mix
  refine ⟨by rw [okA_of R.1.1], by rw [okP_of R.1.1]; exact ⟨rfl, R.1.2.1⟩, fun g2 eg2 => ?_⟩
  subst eg2
  refine q _ ⟨G.trans Ga.sl, R.sl, M.sl, ?_⟩
  rw [hfL_sfL, if_pos rfl, if_pos rfl, e]; rfl
theorem d_likenessVP {zz : Nat → Nat} {y : Nat} {h : AH} {Q : UInt64 → AH → Prop} {c0 c1 st : Nat → Int} (V : MV0 h y c0 c1 st) (P : MP h y c0 c1 (prA c0 c1 st)) (q : Q (likA c0 c1 st) h) : w_X7_likenessNow zz y h Q := by
  have h0 := V.2.2.2.1.n
  have h1 := V.2.2.2.2.1.n
  have K := V.1
  obtain ⟨kt, kl, ⟨ka1, ka2, ka3, ka4, ka5, ka6, ka7, ka8, ka9, ka10, ka11, ka12, ka13, ka14, ka15, ka16⟩, ⟨kr1, kr2, kr3, kr4, kr5, kr6, kr7, kr8, kr9, kr10, kr11, kr12, kr13, kr14, kr15, kr16⟩⟩ := K
  have bd := lk_bd (c0 := c0) (c1 := c1) (st := st)
  unfold likA at q
  unfold w_X7_likenessNow
  refine ⟨by rw [okA_of kt], y + 4, kr4, by rw [okI_of ka4]; omega, by rw [okA_of kt], y + 4, kr4, by rw [okI_of ka4]; omega, ?_⟩
  rw [V.2.2.1.1, V.2.2.1.2.1]
  refine ⟨by unfold inR; omega, ?_⟩
  intro x ex
  have ex : x = ((Nc c0 + Nc c1 : Nat) : Int) := by omega
  subst ex
  rw [jn_def]
  refine ⟨fun n => ⟨by rw [okA_of kt], d_ofKind0 V P ?_⟩, fun e => ?_⟩
  · rw [if_neg (by omega)] at q
    have al := lk_all bd (by omega) (by omega)
    show vf_n64 (lkD (cK (kfA c0 c1 st) (Nc c0) 1)) ∧ vf_n64 (FP.ddiv (lkD (cK (kfA c0 c1 st) (Nc c0) 1)) (FP.i2d (Int32.ofInt ((Nc c0 + Nc c1 : Nat) : Int)))) ∧ Q (FP.ddiv (lkD (cK (kfA c0 c1 st) (Nc c0) 1)) (FP.i2d (Int32.ofInt ((Nc c0 + Nc c1 : Nat) : Int)))) h
    rw [al.2.2.1]
    exact ⟨al.2.1, al.1, q⟩
  · rw [if_pos (by omega)] at q; exact q
theorem lk_e2 : FP.dcmp FP.dconst1 FP.dconst1 = some .eq := by decide +kernel
theorem likA_eq {c0 c1 st : Nat → Int} (h0 : GC c0) (h1 : GC c1) : FP.dcmp (likA c0 c1 st) (likA c0 c1 st) = some .eq := by
  unfold likA
  split
  · exact lk_e2
  · exact (lk_all lk_bd (by have := h0.n; have := h1.n; omega) (by omega)).2.2.2.2
theorem d_bits {zz : Nat → Nat} {a : UInt64} {h : AH} {Q : Int64 → AH → Prop} (e : FP.dcmp a a = some .eq) (q : Q a.toInt64 h) : w_Jxe99ae_doubleToLongBits_ccdee zz a h Q := by
  unfold w_Jxe99ae_doubleToLongBits_ccdee w_Jxe99ae_isNaN_b9ae7
  rw [e]
  refine jn_a1 0 h (fun f hf => ⟨fun _ => hf, fun hn => absurd (by decide) hn⟩) ⟨.inl rfl, fun h => absurd rfl h, fun _ => q⟩
set_option maxHeartbeats 2000000 in
theorem d_mixFrames {zz : Nat → Nat} {y F : Nat} {a : Int64} {h g : AH} {Q : AH → Prop} {D : DT} (S : DGm h g y D F a) (q : ∀ g' : AH, DGm h g' y D F (dg3 D F (dg2 D F a)) → Q g') : w_X7_mixFrames zz y g Q := by
  have ⟨sb, h0, h1, hF, nb⟩ := S.2.2.1.bd
  unfold w_X7_mixFrames
  obtain ⟨I, hI⟩ : ∃ I : Nat → Int → AH → Prop, ∀ m i g', I m i g' ↔ (m = 2 ∧ i = 0 ∧ DGm h g' y D F a ∨ m = 1 ∧ i = 1 ∧ DGm h g' y D F (dgL D a) ∨ m = 0 ∧ i = 2 ∧ DGm h g' y D F (dgM D (dgL D a))) := ⟨_, fun _ _ _ => Iff.rfl⟩
  refine ⟨I, ⟨2, (hI _ _ _).mpr (.inl ⟨rfl, rfl, S⟩)⟩, ?_⟩
  intro m i g1 hi9
  have hy := (hI _ _ _).mp hi9
  refine ⟨fun hc => ?_, fun hc => ?_⟩
  · have S1 : DGm h g1 y D F (dgM D (dgL D a)) := by
      rcases hy with hy | hy | hy
      · have := hy.2.1; omega
      · have := hy.2.1; omega
      · exact hy.2.2
    clear hy hi9 hc
    obtain ⟨J, hJ⟩ : ∃ J : Nat → Int → AH → Prop, ∀ m i g', J m i g' ↔ ∃ k : Nat, k ≤ Nc D.1.1 * 3 ∧ m = Nc D.1.1 * 3 - k ∧ i = (k : Int) ∧ DGm h g' y D F (fo (fun k => wayA D.1.1 D.1.2.1 D.1.2.2 F (k / 3) ((k : Int) % 3)) k (dgM D (dgL D a))) := ⟨_, fun _ _ _ => Iff.rfl⟩
    refine ⟨J, ⟨_, (hJ _ _ _).mpr ⟨0, by omega, rfl, rfl, S1⟩⟩, ?_⟩
    intro m i g2 hj9
    obtain ⟨k, hk, rfl, rfl, S2⟩ := (hJ _ _ _).mp hj9
    have M2 := S2.2.2.1
    have K2 := M2.1.1
    refine ⟨by rw [okA_of K2.1], y + 4, K2.2.2.2.2.2.2.1, by rw [okI_of K2.2.2.1.2.2.2.1]; omega, ?_⟩
    rw [M2.1.2.2.1.1]
    refine ⟨by unfold inR; omega, fun hc => ⟨by rw [okA_of K2.1], d_frames M2 ?_⟩, fun hc => ⟨⟨by omega, by omega⟩, ⟨by omega, by omega⟩, by rw [okA_of K2.1], ?_⟩⟩
    · obtain rfl : k = Nc D.1.1 * 3 := by omega
      obtain ⟨N, hN⟩ : ∃ N : Nat, nFr D.1.1 D.1.2.1 D.1.2.2 F = (N : Int) := ⟨(nFr D.1.1 D.1.2.1 D.1.2.2 F).toNat, by omega⟩
      have S2 : DGm h g2 y D F (dg2 D F a) := S2
      unfold dg3 at q
      rw [hN] at nb q
      rw [show ((N : Nat) : Int).toNat = N from rfl] at q
      rw [hN]
      obtain ⟨L, hL⟩ : ∃ L : Nat → Int → AH → Prop, ∀ m i g', L m i g' ↔ ∃ f : Nat, f ≤ N ∧ m = N - f ∧ i = (f : Int) ∧ DGm h g' y D F (fo (fun k => fraA D.1.1 D.1.2.1 D.1.2.2 F ((k : Int) / 5) ((k : Int) % 5)) (f * 5) (dg2 D F a)) := ⟨_, fun _ _ _ => Iff.rfl⟩
      refine ⟨L, ⟨_, (hL _ _ _).mpr ⟨0, by omega, rfl, rfl, by rw [Nat.zero_mul]; exact S2⟩⟩, ?_⟩
      clear S2 M2 K2 hj9 hc
      intro m i g3 hl9
      obtain ⟨f, hf, rfl, rfl, S3⟩ := (hL _ _ _).mp hl9
      refine ⟨fun hc => ?_, fun hc => ?_⟩
      · obtain rfl : f = N := by omega
        obtain ⟨T, hT⟩ : ∃ T : Nat → Int → AH → Prop, ∀ m i g', T m i g' ↔ ∃ k : Nat, k ≤ 80 ∧ m = 80 - k ∧ i = (k : Int) ∧ DGm h g' y D F (fo (fun k => shA D.1.1 D.1.2.1 D.1.2.2 F (((f : Int) - 1) / 2) k) k (fo (fun k => fraA D.1.1 D.1.2.1 D.1.2.2 F ((k : Int) / 5) ((k : Int) % 5)) (f * 5) (dg2 D F a))) := ⟨_, fun _ _ _ => Iff.rfl⟩
        refine ⟨T, ⟨80, (hT _ _ _).mpr ⟨0, by omega, rfl, rfl, S3⟩⟩, ?_⟩
        intro m i g4 ht9
        obtain ⟨k, hk, rfl, rfl, S4⟩ := (hT _ _ _).mp ht9
        refine ⟨fun hc => ?_, fun hc => ?_⟩
        · obtain rfl : k = 80 := by omega
          exact q g4 S4
        · have K4 := S4.2.2.1.1.1
          refine ⟨by unfold inR; omega, ⟨by omega, by omega⟩, by rw [okA_of K4.1], d_shown S4.2.2.1 (by omega) ⟨by rw [okA_of K4.1], d_mix S4 (fun g5 S5 => ⟨by unfold inR; omega, fun x e => ⟨80 - (k + 1), by omega, (hT _ _ _).mpr ⟨k + 1, by omega, rfl, by omega, S5⟩⟩⟩)⟩⟩
      · obtain ⟨T, hT⟩ : ∃ T : Nat → Int → AH → Prop, ∀ m i g', T m i g' ↔ ∃ w : Nat, w ≤ 5 ∧ m = 5 - w ∧ i = (w : Int) ∧ DGm h g' y D F (fo (fun k => fraA D.1.1 D.1.2.1 D.1.2.2 F ((k : Int) / 5) ((k : Int) % 5)) (f * 5 + w) (dg2 D F a)) := ⟨_, fun _ _ _ => Iff.rfl⟩
        refine ⟨T, ⟨5, (hT _ _ _).mpr ⟨0, by omega, rfl, rfl, S3⟩⟩, ?_⟩
        intro m i g4 ht9
        obtain ⟨w, hw, rfl, rfl, S4⟩ := (hT _ _ _).mp ht9
        have K4 := S4.2.2.1.1.1
        refine ⟨fun hc => ⟨by unfold inR; omega, fun x e => ⟨N - (f + 1), by omega, (hL _ _ _).mpr ⟨f + 1, by omega, rfl, by omega, ?_⟩⟩⟩, fun hc => ⟨by rw [okA_of K4.1], d_frameNow S4.2.2.1 (by omega) (by omega) ⟨by rw [okA_of K4.1], d_mix S4 (fun g5 S5 => ⟨by unfold inR; omega, fun x e => ⟨5 - (w + 1), by omega, (hT _ _ _).mpr ⟨w + 1, by omega, rfl, by omega, ?_⟩⟩⟩)⟩⟩⟩
        · obtain rfl : w = 5 := by omega
          rw [show (f + 1) * 5 = f * 5 + 5 by omega]; exact S4
        · have e1 : (((f * 5 + w : Nat) : Int) / 5) = (f : Int) := by omega
          have e2 : (((f * 5 + w : Nat) : Int) % 5) = (w : Int) := by omega
          show DGm h g5 y D F (mx (fo (fun k => fraA D.1.1 D.1.2.1 D.1.2.2 F ((k : Int) / 5) ((k : Int) % 5)) (f * 5 + w) (dg2 D F a)) (fraA D.1.1 D.1.2.1 D.1.2.2 F (((f * 5 + w : Nat) : Int) / 5) (((f * 5 + w : Nat) : Int) % 5)))
          rw [e1, e2]; exact S5
    · rw [show (k : Int) / 3 = ((k / 3 : Nat) : Int) by omega]
      exact d_wayNow M2 (by omega) ⟨by rw [okA_of K2.1], d_mix S2 (fun g3 S3 => ⟨by unfold inR; omega, fun x e => ⟨Nc D.1.1 * 3 - (k + 1), by omega, (hJ _ _ _).mpr ⟨k + 1, by omega, rfl, by omega, S3⟩⟩⟩)⟩
  · rcases hy with ⟨rfl, rfl, S1⟩ | ⟨rfl, rfl, S1⟩ | hy
    · obtain ⟨J, hJ⟩ : ∃ J : Nat → Int → AH → Prop, ∀ m i g', J m i g' ↔ ∃ k : Nat, k ≤ Nc D.1.1 * 6 ∧ m = Nc D.1.1 * 6 - k ∧ i = (k : Int) ∧ DGm h g' y D F (fo (fun k => let0 D.1.1 D.1.2.1 D.1.2.2 (k / 6) ((k : Int) % 6)) k a) := ⟨_, fun _ _ _ => Iff.rfl⟩
      refine ⟨J, ⟨_, (hJ _ _ _).mpr ⟨0, by omega, rfl, rfl, S1⟩⟩, ?_⟩
      intro m i g2 hj9
      obtain ⟨k, hk, rfl, rfl, S2⟩ := (hJ _ _ _).mp hj9
      have M2 := S2.2.2.1
      have K2 := M2.1.1
      refine ⟨by rw [okA_of K2.1], y + 4, K2.2.2.2.2.2.2.1, by rw [okI_of K2.2.2.1.2.2.2.1]; omega, ?_⟩
      rw [M2.1.2.2.1.1]
      refine ⟨by unfold inR; omega, fun hc => ⟨by unfold inR; omega, fun x e => ⟨1, by omega, (hI _ _ _).mpr (.inr (.inl ⟨rfl, by omega, ?_⟩))⟩⟩, fun hc => ⟨⟨by omega, by omega⟩, ⟨by omega, by omega⟩, by rw [okA_of K2.1], ?_⟩⟩
      · obtain rfl : k = Nc D.1.1 * 6 := by omega
        exact S2
      · rw [show (k : Int) / 6 = ((k / 6 : Nat) : Int) by omega]
        exact d_letter0 M2 (by omega) (by omega) ⟨by rw [okA_of K2.1], d_mix S2 (fun g3 S3 => ⟨by unfold inR; omega, fun x e => ⟨Nc D.1.1 * 6 - (k + 1), by omega, (hJ _ _ _).mpr ⟨k + 1, by omega, rfl, by omega, S3⟩⟩⟩)⟩
    · obtain ⟨J, hJ⟩ : ∃ J : Nat → Int → AH → Prop, ∀ m i g', J m i g' ↔ ∃ k : Nat, k ≤ Nc D.1.2.1 * 6 ∧ m = Nc D.1.2.1 * 6 - k ∧ i = (k : Int) ∧ DGm h g' y D F (fo (fun k => let1 D.1.1 D.1.2.1 D.1.2.2 (k / 6) ((k : Int) % 6)) k (dgL D a)) := ⟨_, fun _ _ _ => Iff.rfl⟩
      refine ⟨J, ⟨_, (hJ _ _ _).mpr ⟨0, by omega, rfl, rfl, S1⟩⟩, ?_⟩
      intro m i g2 hj9
      obtain ⟨k, hk, rfl, rfl, S2⟩ := (hJ _ _ _).mp hj9
      have M2 := S2.2.2.1
      have K2 := M2.1.1
      refine ⟨by rw [okA_of K2.1], y + 4, K2.2.2.2.2.2.2.1, by rw [okI_of K2.2.2.1.2.2.2.1]; omega, ?_⟩
      rw [M2.1.2.2.1.2.1]
      refine ⟨by unfold inR; omega, fun hc => ⟨by unfold inR; omega, fun x e => ⟨0, by omega, (hI _ _ _).mpr (.inr (.inr ⟨rfl, by omega, ?_⟩))⟩⟩, fun hc => ⟨⟨by omega, by omega⟩, ⟨by omega, by omega⟩, by rw [okA_of K2.1], ?_⟩⟩
      · obtain rfl : k = Nc D.1.2.1 * 6 := by omega
        exact S2
      · rw [show (k : Int) / 6 = ((k / 6 : Nat) : Int) by omega]
        exact d_letter1 M2 (by omega) (by omega) ⟨by rw [okA_of K2.1], d_mix S2 (fun g3 S3 => ⟨by unfold inR; omega, fun x e => ⟨Nc D.1.2.1 * 6 - (k + 1), by omega, (hJ _ _ _).mpr ⟨k + 1, by omega, rfl, by omega, S3⟩⟩⟩)⟩
    · have := hy.2.1; omega
set_option maxHeartbeats 2000000 in
theorem d_digest {zz : Nat → Nat} {y : Nat} {h : AH} {Q : Int64 → AH → Prop} {D : DT} (R : MRl h y D) (q : ∀ (F : Nat) (h' : AH), isFF D.1.1 D.1.2.1 D.1.2.2 F → Ga h h' y (y + 17) → MRl h' y D → Q (dgA D F) h') : w_X7_digest zz y h Q := by
  unfold w_X7_digest
  refine ⟨by rw [okP_of R.1.1]; exact ⟨rfl, R.1.2.1⟩, fun g0 eg0 => ?_⟩
  have R0 : MRl g0 y D := by rw [eg0]; exact R.th
  have G0 : Ga h g0 y (y + 17) := by rw [eg0]; exact Ga.th
  refine ⟨by rw [okP_of R0.1.1]; exact ⟨rfl, R0.1.2.1⟩, fun g1 eg1 => ?_⟩
  have R1 : MRl g1 y D := by rw [eg1]; exact R0.sl
  have G1 : Ga h g1 y (y + 17) := G0.trans (by rw [eg1]; exact Ga.sl)
  have e1 : hfL g1 y 20 = 2111 := by rw [eg1, hfL_sfL, if_pos rfl, if_pos rfl]
  refine ⟨by rw [okA_of R1.1.1], d_layR R1 (fun F g2 G2 R2 M2 _ eL => ?_)⟩
  have q := fun h' => q F h' M2.isFF
  have S2 : DGm h g2 y D F 2111 := ⟨G1.trans G2, R2, M2, by rw [eL]; exact e1⟩
  obtain ⟨n13, hn13⟩ : ∃ n13 : Nat → Int, ∀ k, n13 k = if k = 12 then (D.2.2.1 : Int) else numA D.1.1 D.1.2.1 D.1.2.2 F k := ⟨_, fun _ => rfl⟩
  have e13 : fo n13 13 2111 = mx (fo (fun k => numA D.1.1 D.1.2.1 D.1.2.2 F k) 12 2111) (D.2.2.1 : Int) := by
    show mx (fo n13 12 2111) (n13 12) = _
    rw [hn13 12, if_pos rfl, fo_ext (g := fun k => numA D.1.1 D.1.2.1 D.1.2.2 F k) (fun k hk => by rw [hn13, if_neg (by omega)])]
  obtain ⟨I, hI⟩ : ∃ I : Nat → Int → AH → Prop, ∀ m i g', I m i g' ↔ ∃ k : Nat, k ≤ 13 ∧ m = 13 - k ∧ i = (k : Int) ∧ DGm h g' y D F (fo n13 k 2111) := ⟨_, fun _ _ _ => Iff.rfl⟩
  refine ⟨I, ⟨13, (hI _ _ _).mpr ⟨0, by omega, rfl, rfl, S2⟩⟩, ?_⟩
  clear S2 M2 R2 G2 eL e1 eg1 eg0
  intro m i g3 hi9
  obtain ⟨k, hk, rfl, rfl, S3⟩ := (hI _ _ _).mp hi9
  refine ⟨fun hc => ?_, fun hc => ?_⟩
  · obtain rfl : k = 13 := by omega
    rw [e13] at S3
    obtain ⟨J, hJ⟩ : ∃ J : Nat → Int → AH → Prop, ∀ m i g', J m i g' ↔ ∃ k : Nat, k ≤ 8 ∧ m = 8 - k ∧ i = (k : Int) ∧ DGm h g' y D F (fo D.1.2.2 k (mx (fo (fun k => numA D.1.1 D.1.2.1 D.1.2.2 F k) 12 2111) (D.2.2.1 : Int))) := ⟨_, fun _ _ _ => Iff.rfl⟩
    refine ⟨J, ⟨8, (hJ _ _ _).mpr ⟨0, by omega, rfl, rfl, S3⟩⟩, ?_⟩
    intro m i g4 hj9
    obtain ⟨k, hk, rfl, rfl, S4⟩ := (hJ _ _ _).mp hj9
    have K4 := S4.2.1.1
    refine ⟨fun hc => ⟨by rw [okA_of K4.1], ?_⟩, fun hc => ⟨by rw [okA_of K4.1], d_of K4 S4.2.1.2.1 (by omega) ⟨by rw [okA_of K4.1], d_mix S4 (fun g5 S5 => ⟨by unfold inR; omega, fun x e => ⟨8 - (k + 1), by omega, (hJ _ _ _).mpr ⟨k + 1, by omega, rfl, by omega, S5⟩⟩⟩)⟩⟩⟩
    obtain rfl : k = 8 := by omega
    have S4 : DGm h g4 y D F (dg1 D F 2111) := S4
    refine d_mixFrames S4 (fun g5 S5 => ⟨by rw [okA_of S5.2.1.1.1], d_bestNow S5.2.2.1 (fun g6 L6 Z6 => ?_)⟩)
    have V5 := S5.2.2.1.1
    have P5 := S5.2.2.1.2.1
    have R6 := S5.2.1.lb L6 Z6
    have G6 := S5.1.trans (L6.1.ga (c := y) (d := y + 17) (by omega) (by omega))
    have V6 : MV0 g6 y D.1.1 D.1.2.1 D.1.2.2 := by
      refine ⟨R6.1, Z6, ?_, V5.2.2.2⟩
      have l := V5.2.2.1
      unfold ML at *
      rw [L6.2.1 (y + 4) (by omega) (by omega), L6.2.1 (y + 5) (by omega) (by omega), L6.2.1 (y + 6) (by omega) (by omega)]; exact l
    have P6 : MP g6 y D.1.1 D.1.2.1 (prA D.1.1 D.1.2.1 D.1.2.2) := by
      unfold MP at *
      rw [L6.2.1 (y + 7) (by omega) (by omega), L6.2.1 (y + 8) (by omega) (by omega)]; exact P5
    have L20 : hfL g6 y 20 = dg3 D F (dg2 D F (dg1 D F 2111)) := by rw [L6.1.1.2.2.2.2.1]; exact S5.2.2.2
    have K6 := R6.1
    obtain ⟨b, hb⟩ : ∃ b, b = dg3 D F (dg2 D F (dg1 D F 2111)) := ⟨_, rfl⟩
    rw [← hb] at L20
    have mixl : ∀ (g : AH) (v a : Int64) (Q : AH → Prop), MRl g y D → hfL g y 20 = a → (∀ g', g' = sfL g y 20 (31 * a + v) → Q g') → w_X7_mix zz y v g Q := by
      intro g v a Q Rg ea hq
      unfold w_X7_mix
      exact ⟨by rw [okA_of Rg.1.1], by rw [okP_of Rg.1.1]; exact ⟨rfl, Rg.1.2.1⟩, fun g2 eg2 => hq g2 (by rw [eg2, ea])⟩
    refine ⟨by rw [okA_of K6.1], mixl g6 _ b _ R6 L20 (fun g7 eg7 => ?_)⟩
    have R7 : MRl g7 y D := by rw [eg7]; exact R6.sl
    have V7 : MV0 g7 y D.1.1 D.1.2.1 D.1.2.2 := by rw [eg7]; exact V6
    have P7 : MP g7 y D.1.1 D.1.2.1 (prA D.1.1 D.1.2.1 D.1.2.2) := by rw [eg7]; exact P6
    have G7 : Ga h g7 y (y + 17) := G6.trans (by rw [eg7]; exact Ga.sl)
    have L7 : hfL g7 y 20 = mx b 0 := by rw [eg7, hfL_sfL, if_pos rfl, if_pos rfl]; rfl
    refine ⟨by rw [okA_of R7.1.1], d_likenessVP V7 P7 (d_bits (likA_eq V7.2.2.2.1 V7.2.2.2.2.1) ⟨by rw [okA_of R7.1.1], mixl g7 _ _ _ R7 L7 (fun g8 eg8 => ?_)⟩)⟩
    have R8 : MRl g8 y D := by rw [eg8]; exact R7.sl
    have G8 : Ga h g8 y (y + 17) := G7.trans (by rw [eg8]; exact Ga.sl)
    have L8 : hfL g8 y 20 = ((31 : Int64) * mx b 0) + (likA D.1.1 D.1.2.1 D.1.2.2).toInt64 := by rw [eg8, hfL_sfL, if_pos rfl, if_pos rfl]
    refine ⟨by rw [okA_of R8.1.1], by rw [okA_of R8.1.1], mixl g8 _ _ _ R8 L8 (fun g9 eg9 => ?_)⟩
    have R9 : MRl g9 y D := by rw [eg9]; exact R8.sl
    have G9 : Ga h g9 y (y + 17) := G8.trans (by rw [eg9]; exact Ga.sl)
    have l8 : hfI g8 y 4 = (D.2.2.2.2 : Int) := R8.2.2.2.2.2.2.2.1
    have L9 : hfL g9 y 20 = mx (((31 : Int64) * mx b 0) + (likA D.1.1 D.1.2.1 D.1.2.2).toInt64) (D.2.2.2.2 : Int) := by rw [eg9, hfL_sfL, if_pos rfl, if_pos rfl, l8]; rfl
    obtain ⟨T, hT⟩ : ∃ T : Nat → Int → AH → Prop, ∀ m i g', T m i g' ↔ ∃ k : Nat, k ≤ D.2.2.2.2 ∧ m = D.2.2.2.2 - k ∧ i = (k : Int) ∧ Ga h g' y (y + 17) ∧ MRl g' y D ∧ hfL g' y 20 = fo D.2.2.2.1 k (mx (((31 : Int64) * mx b 0) + (likA D.1.1 D.1.2.1 D.1.2.2).toInt64) (D.2.2.2.2 : Int)) := ⟨_, fun _ _ _ => Iff.rfl⟩
    refine ⟨T, ⟨_, (hT _ _ _).mpr ⟨0, by omega, rfl, rfl, G9, R9, L9⟩⟩, ?_⟩
    intro m i g10 ht9
    obtain ⟨k, hk, rfl, rfl, G10, R10, L10⟩ := (hT _ _ _).mp ht9
    have K10 := R10.1
    have b60 := R10.2.2.2.2.2.2.2.2.1
    refine ⟨by rw [okA_of K10.1], ?_⟩
    rw [R10.2.2.2.2.2.2.2.1]
    refine ⟨fun hc => ⟨by rw [okA_of K10.1], ?_⟩, fun hc => ⟨by rw [okA_of K10.1], y + 3, K10.2.2.2.2.2.1, by rw [okI_of K10.2.2.1.2.2.1]; omega, by rw [okA_of K10.1], mixl g10 _ _ _ R10 L10 (fun g11 eg11 => ⟨by unfold inR; omega, fun x e => ⟨D.2.2.2.2 - (k + 1), by omega, (hT _ _ _).mpr ⟨k + 1, by omega, rfl, by omega, G10.trans (by rw [eg11]; exact Ga.sl), by rw [eg11]; exact R10.sl, ?_⟩⟩⟩)⟩⟩
    · obtain rfl : k = D.2.2.2.2 := by omega
      rw [L10, hb]
      exact q g10 G10 R10
    · rw [eg11, hfL_sfL, if_pos rfl, if_pos rfl, R10.2.2.2.2.2.2.2.2.2 k (by omega)]; rfl
  · have K3 := S3.2.1.1
    refine ⟨by rw [okA_of K3.1], d_counted S3.2.2.1 (by omega) ⟨by rw [okA_of K3.1], d_mix S3 (fun g5 S5 => ⟨by unfold inR; omega, fun x e => ⟨13 - (k + 1), by omega, (hI _ _ _).mpr ⟨k + 1, by omega, rfl, by omega, ?_⟩⟩⟩)⟩⟩
    show DGm h g5 y D F (mx (fo n13 k 2111) (n13 k))
    have e : n13 k = if (k : Int) = 12 then hfI g3 y 2 else numA D.1.1 D.1.2.1 D.1.2.2 F k := by
      rw [hn13, S3.2.1.2.2.2.1]
      by_cases e : k = 12
      · rw [if_pos e, if_pos (by omega)]
      · rw [if_neg e, if_neg (by omega)]
    rw [e]; exact S5
