/-! THE PURE LAYER, 30: the model's moving, one frame -/
/-- changed: the moving's number, and arrays from c to y + 16 -/
def Lf (h h' : AH) (y c : Nat) : Prop := Fr h h' y (y + 16) ∧ (∀ q, q < c → haI h' q = haI h q) ∧ (∀ f, f ≠ 12 → hfI h' y f = hfI h y f)
theorem Lf.refl (h : AH) (y c : Nat) : Lf h h y c := ⟨Fr.refl _ _ _, fun _ _ => rfl, fun _ _ => rfl⟩
theorem Lf.trans {h g k : AH} {y c : Nat} (a : Lf h g y c) (b : Lf g k y c) : Lf h k y c := ⟨a.1.trans b.1, fun q hq => (b.2.1 q hq).trans (a.2.1 q hq), fun f hf => (b.2.2 f hf).trans (a.2.2 f hf)⟩
theorem Lf.wide {h g : AH} {y c c' : Nat} (a : Lf h g y c) (hc : c' ≤ c) : Lf h g y c' := ⟨a.1, fun q hq => a.2.1 q (by omega), a.2.2⟩
theorem Fr.lf {h h' : AH} {a b y c : Nat} (F : Fr h h' a b) (h1 : y + 1 ≤ a) (h2 : c ≤ a) (h3 : b ≤ y + 16) : Lf h h' y c := ⟨F.wide (by omega) (by omega), fun q hq => F.ai (by omega), fun f hf => by rw [F.fi (by omega)]⟩
theorem Lf.m {h : AH} {y c : Nat} {v : Int} : Lf h (sfI h y 12 v) y c := ⟨Fr.sf (by omega) (by omega), fun q hq => rfl, fun f hf => by rw [hfI_sfI, if_pos rfl, if_neg hf]⟩
theorem MV0.lf {h h' : AH} {y c : Nat} {c0 c1 st : Nat → Int} (V : MV0 h y c0 c1 st) (F : Lf h h' y c) (hc : y + 7 ≤ c) : MV0 h' y c0 c1 st := by
  obtain ⟨K, Z, L, r⟩ := V
  refine ⟨K.fr F.1, fun k hk => by rw [F.2.1 _ (by omega)]; exact Z k hk, ?_, r⟩
  unfold ML at *
  rw [F.2.1 (y + 4) (by omega), F.2.1 (y + 5) (by omega), F.2.1 (y + 6) (by omega)]; exact L
theorem MP.lf {h h' : AH} {y c : Nat} {c0 c1 : Nat → Int} {σ : PT} (P : MP h y c0 c1 σ) (F : Lf h h' y c) (hc : y + 9 ≤ c) : MP h' y c0 c1 σ := by
  unfold MP at *
  rw [F.2.1 (y + 7) (by omega), F.2.1 (y + 8) (by omega)]; exact P
theorem d_ofKind0 {zz : Nat → Nat} {y : Nat} {v : Int} {h : AH} {Q : Int → AH → Prop} {c0 c1 st : Nat → Int} {σ : PT} (V : MV0 h y c0 c1 st) (P : MP h y c0 c1 σ) (q : Q (cK σ.2.2.1 (Nc c0) v : Int) h) : w_X7_ofKind zz y (0 : Int) v h Q := by
  have K := V.1
  have n0 := V.2.2.1.1
  have h0 := V.2.2.2.1.n
  obtain ⟨kt, kl, ⟨ka1, ka2, ka3, ka4, ka5, ka6, ka7, ka8, ka9, ka10, ka11, ka12, ka13, ka14, ka15, ka16⟩, ⟨kr1, kr2, kr3, kr4, kr5, kr6, kr7, kr8, kr9, kr10, kr11, kr12, kr13, kr14, kr15, kr16⟩⟩ := K
  unfold w_X7_ofKind
  obtain ⟨I, hI⟩ : ∃ I : Nat → Int → Int → AH → Prop, ∀ m x i h', I m x i h' ↔ ∃ k : Nat, k ≤ Nc c0 ∧ m = Nc c0 - k ∧ i = (k : Int) ∧ x = (cK σ.2.2.1 k v : Int) ∧ h' = h := ⟨_, fun _ _ _ _ => Iff.rfl⟩
  refine ⟨I, ⟨_, (hI _ _ _ _).mpr ⟨0, by omega, rfl, rfl, rfl, rfl⟩⟩, ?_⟩
  intro m x i h' hi9
  obtain ⟨k, hk, rfl, rfl, rfl, rfl⟩ := (hI _ _ _ _).mp hi9
  refine ⟨by rw [okA_of kt], y + 4, kr4, by rw [okI_of ka4]; omega, ?_⟩
  rw [n0]
  refine ⟨fun hc => ?_, fun hc => ?_⟩
  · obtain rfl : k = Nc c0 := by omega
    exact q
  · have hk8 : k < Nc c0 := by omega
    have e := (P.1 k hk8).2
    have cl := cK_le (f := σ.2.2.1) (n := k) (v := v)
    have cs := cK_s (f := σ.2.2.1) (n := k) (v := v)
    refine ⟨by rw [okA_of kt], y + 8, kr8, by unfold inR; omega, by unfold inR; omega, by rw [okI_of ka8]; omega, ?_⟩
    rw [jn_def, show (40 : Int) * 0 + (k : Int) = (k : Int) by omega, e]
    have go : ∀ t : Int, (cK σ.2.2.1 k v : Int) + t = (cK σ.2.2.1 (k + 1) v : Int) → (inR ((cK σ.2.2.1 k v : Int) + t) ∧ ∀ x3_39 : Int, x3_39 = ((cK σ.2.2.1 k v : Int) + t) → inR ((k : Int) + 1) ∧ ∀ x4_40 : Int, x4_40 = ((k : Int) + 1) → ∃ m, m < Nc c0 - k ∧ I m x3_39 x4_40 h') := by
      intro t ht
      have cl2 := cK_le (f := σ.2.2.1) (n := k + 1) (v := v)
      refine ⟨by unfold inR; omega, fun x3 e3 => ⟨by unfold inR; omega, fun x4 e4 => ⟨Nc c0 - (k + 1), by omega, (hI _ _ _ _).mpr ⟨k + 1, by omega, rfl, by omega, by omega, rfl⟩⟩⟩⟩
    refine ⟨fun ne => go 0 (by rw [cs, if_neg ne]; omega), fun e2 => go 1 (by rw [cs, if_pos e2]; omega)⟩
theorem d_ofKind1 {zz : Nat → Nat} {y : Nat} {v : Int} {h : AH} {Q : Int → AH → Prop} {c0 c1 st : Nat → Int} {σ : PT} (V : MV0 h y c0 c1 st) (P : MP h y c0 c1 σ) (q : Q (cK σ.2.2.2 (Nc c1) v : Int) h) : w_X7_ofKind zz y (1 : Int) v h Q := by
  have K := V.1
  have n0 := V.2.2.1.2.1
  have h0 := V.2.2.2.2.1.n
  obtain ⟨kt, kl, ⟨ka1, ka2, ka3, ka4, ka5, ka6, ka7, ka8, ka9, ka10, ka11, ka12, ka13, ka14, ka15, ka16⟩, ⟨kr1, kr2, kr3, kr4, kr5, kr6, kr7, kr8, kr9, kr10, kr11, kr12, kr13, kr14, kr15, kr16⟩⟩ := K
  unfold w_X7_ofKind
  obtain ⟨I, hI⟩ : ∃ I : Nat → Int → Int → AH → Prop, ∀ m x i h', I m x i h' ↔ ∃ k : Nat, k ≤ Nc c1 ∧ m = Nc c1 - k ∧ i = (k : Int) ∧ x = (cK σ.2.2.2 k v : Int) ∧ h' = h := ⟨_, fun _ _ _ _ => Iff.rfl⟩
  refine ⟨I, ⟨_, (hI _ _ _ _).mpr ⟨0, by omega, rfl, rfl, rfl, rfl⟩⟩, ?_⟩
  intro m x i h' hi9
  obtain ⟨k, hk, rfl, rfl, rfl, rfl⟩ := (hI _ _ _ _).mp hi9
  refine ⟨by rw [okA_of kt], y + 4, kr4, by rw [okI_of ka4]; omega, ?_⟩
  rw [n0]
  refine ⟨fun hc => ?_, fun hc => ?_⟩
  · obtain rfl : k = Nc c1 := by omega
    exact q
  · have hk8 : k < Nc c1 := by omega
    have e := (P.2 k hk8).2
    have cl := cK_le (f := σ.2.2.2) (n := k) (v := v)
    have cs := cK_s (f := σ.2.2.2) (n := k) (v := v)
    refine ⟨by rw [okA_of kt], y + 8, kr8, by unfold inR; omega, by unfold inR; omega, by rw [okI_of ka8]; omega, ?_⟩
    rw [jn_def, show (40 : Int) * 1 + (k : Int) = (40 : Int) + (k : Int) by omega, e]
    have go : ∀ t : Int, (cK σ.2.2.2 k v : Int) + t = (cK σ.2.2.2 (k + 1) v : Int) → (inR ((cK σ.2.2.2 k v : Int) + t) ∧ ∀ x3_39 : Int, x3_39 = ((cK σ.2.2.2 k v : Int) + t) → inR ((k : Int) + 1) ∧ ∀ x4_40 : Int, x4_40 = ((k : Int) + 1) → ∃ m, m < Nc c1 - k ∧ I m x3_39 x4_40 h') := by
      intro t ht
      have cl2 := cK_le (f := σ.2.2.2) (n := k + 1) (v := v)
      refine ⟨by unfold inR; omega, fun x3 e3 => ⟨by unfold inR; omega, fun x4 e4 => ⟨Nc c1 - (k + 1), by omega, (hI _ _ _ _).mpr ⟨k + 1, by omega, rfl, by omega, by omega, rfl⟩⟩⟩⟩
    refine ⟨fun ne => go 0 (by rw [cs, if_neg ne]; omega), fun e2 => go 1 (by rw [cs, if_pos e2]; omega)⟩
theorem gl_ne {c0 c1 st : Nat → Int} {k : Nat} (hk : k < Nc c0) : glM c0 c1 st k ≠ -1 ↔ pfA c0 c1 st k ≠ -1 := by
  rcases glA_ok (c1 := c1) (pw_A (c0 := c0) (c1 := c1) (st := st)) k hk with h | h
  · exact ⟨fun a => absurd h.1 a, fun a => absurd h.2 a⟩
  · exact ⟨fun _ => h.2, fun _ e => by have h1 := h.1; rw [show glA c1 (prA c0 c1 st) k = -1 from e] at h1; omega⟩
theorem gl_bd {c0 c1 st : Nat → Int} {k : Nat} (hk : k < Nc c0) (hn : pfA c0 c1 st k ≠ -1) : 0 ≤ glM c0 c1 st k ∧ glM c0 c1 st k < 80 := by
  rcases glA_ok (c1 := c1) (pw_A (c0 := c0) (c1 := c1) (st := st)) k hk with h | h
  · exact absurd h.2 hn
  · exact h.1
theorem d_goal {zz : Nat → Nat} {y k : Nat} {h : AH} {Q : Int → AH → Prop} {c0 c1 st s2 : Nat → Int} (V : MV0 h y c0 c1 s2) (P : MP h y c0 c1 (prA c0 c1 st)) (hk : k < Nc c0) (hn : pfA c0 c1 st k ≠ -1) (q : Q (glM c0 c1 st k) h) : w_X7_goal zz y k h Q := by
  have K := V.1
  have h0 := V.2.2.2.1.n
  have h1 := V.2.2.2.2.1.n
  obtain ⟨kt, kl, ⟨ka1, ka2, ka3, ka4, ka5, ka6, ka7, ka8, ka9, ka10, ka11, ka12, ka13, ka14, ka15, ka16⟩, ⟨kr1, kr2, kr3, kr4, kr5, kr6, kr7, kr8, kr9, kr10, kr11, kr12, kr13, kr14, kr15, kr16⟩⟩ := K
  have e := (P.1 k hk).1
  rcases pf_cases (c1 := c1) (st := st) hk with hh | ⟨j, hj, e1, -⟩
  · exact absurd hh.1 hn
  have l1 := (V.2.2.1.2.2.2 j hj).1
  have eg : glM c0 c1 st k = (Lc c1 j : Int) := by
    show glA c1 (prA c0 c1 st) k = _
    unfold glA
    rw [if_neg hn, show (prA c0 c1 st).1 k = _ from e1]; rfl
  unfold w_X7_goal
  refine ⟨by rw [okA_of kt], y + 5, kr5, by rw [okA_of kt], y + 7, kr7, by rw [okI_of ka7]; omega, ?_⟩
  rw [e, show (prA c0 c1 st).1 k = _ from e1]
  refine ⟨by unfold inR; omega, by rw [okI_of ka5]; omega, ?_⟩
  rw [l1, ← eg]; exact q
theorem d_isGoing {zz : Nat → Nat} {y k : Nat} {a : Int} {h : AH} {Q : Int → AH → Prop} {c0 c1 st s2 : Nat → Int} (V : MV0 h y c0 c1 s2) (P : MP h y c0 c1 (prA c0 c1 st)) (hk : k < Nc c0) (ha : haI h (y + 14) k = a) (q : Q (if glM c0 c1 st k ≠ -1 ∧ a ≠ glM c0 c1 st k then 1 else 0) h) : w_X7_isGoing zz y k h Q := by
  have K := V.1
  have h0 := V.2.2.2.1.n
  obtain ⟨kt, kl, ⟨ka1, ka2, ka3, ka4, ka5, ka6, ka7, ka8, ka9, ka10, ka11, ka12, ka13, ka14, ka15, ka16⟩, ⟨kr1, kr2, kr3, kr4, kr5, kr6, kr7, kr8, kr9, kr10, kr11, kr12, kr13, kr14, kr15, kr16⟩⟩ := K
  have e := (P.1 k hk).1
  have gn := gl_ne (c1 := c1) (st := st) hk
  unfold w_X7_isGoing
  refine ⟨by rw [okA_of kt], y + 7, kr7, by rw [okI_of ka7]; omega, jn_a1 (if glM c0 c1 st k ≠ -1 ∧ a ≠ glM c0 c1 st k then 1 else 0) h (fun f hf => ?_) ⟨by split <;> simp, q⟩⟩
  rw [jn_def, e]
  refine ⟨fun e1 => ?_, fun n1 => ⟨by rw [okA_of kt], y + 14, kr14, by rw [okI_of ka14]; omega, by rw [okA_of kt], d_goal V P hk n1 ?_⟩⟩
  · rw [if_neg (fun h => gn.mp h.1 e1)] at hf; exact hf
  · rw [ha]
    refine ⟨fun e2 => ?_, fun n2 => ?_⟩
    · rw [if_neg (fun h => h.2 e2)] at hf; exact hf
    · rw [if_pos ⟨gn.mpr n1, n2⟩] at hf; exact hf
theorem d_anyGoes {zz : Nat → Nat} {y : Nat} {cl : Nat → Int} {h : AH} {Q : Int → AH → Prop} {c0 c1 st s2 : Nat → Int} (V : MV0 h y c0 c1 s2) (P : MP h y c0 c1 (prA c0 c1 st)) (hc : ∀ k : Nat, k < Nc c0 → haI h (y + 14) k = cl k) (q : Q (if 0 < cG (glM c0 c1 st) cl (Nc c0) then 1 else 0) h) : w_X7_anyGoes zz y h Q := by
  have K := V.1
  have h0 := V.2.2.2.1.n
  have n0 := V.2.2.1.1
  obtain ⟨kt, kl, ⟨ka1, ka2, ka3, ka4, ka5, ka6, ka7, ka8, ka9, ka10, ka11, ka12, ka13, ka14, ka15, ka16⟩, ⟨kr1, kr2, kr3, kr4, kr5, kr6, kr7, kr8, kr9, kr10, kr11, kr12, kr13, kr14, kr15, kr16⟩⟩ := K
  unfold w_X7_anyGoes
  obtain ⟨I, hI⟩ : ∃ I : Nat → Int → Int → AH → Prop, ∀ m x i h', I m x i h' ↔ ∃ k : Nat, k ≤ Nc c0 ∧ m = Nc c0 - k ∧ i = (k : Int) ∧ x = (if 0 < cG (glM c0 c1 st) cl k then 1 else 0) ∧ h' = h := ⟨_, fun _ _ _ _ => Iff.rfl⟩
  refine ⟨I, ⟨_, (hI _ _ _ _).mpr ⟨0, by omega, rfl, rfl, rfl, rfl⟩⟩, ?_⟩
  intro m x i h' hi9
  obtain ⟨k, hk, rfl, rfl, rfl, rfl⟩ := (hI _ _ _ _).mp hi9
  refine ⟨by rw [okA_of kt], y + 4, kr4, by rw [okI_of ka4]; omega, ?_⟩
  rw [n0]
  refine ⟨fun hc => ?_, fun hc9 => ?_⟩
  · obtain rfl : k = Nc c0 := by omega
    exact ⟨by split <;> simp, q⟩
  · have hk8 : k < Nc c0 := by omega
    have cs := cG_s (gl := glM c0 c1 st) (c := cl) (n := k)
    refine jn_a1 (if 0 < cG (glM c0 c1 st) cl (k + 1) then 1 else 0) h' (fun f hf => ?_) ⟨by unfold inR; omega, fun x4 e4 => ⟨Nc c0 - (k + 1), by omega, (hI _ _ _ _).mpr ⟨k + 1, by omega, rfl, by omega, rfl, rfl⟩⟩⟩
    rw [jn_def]
    by_cases g : 0 < cG (glM c0 c1 st) cl k
    · rw [if_pos g]
      rw [if_pos (by omega)] at hf
      exact ⟨fun _ => hf, fun h => absurd h (by omega)⟩
    · rw [if_neg g]
      refine ⟨fun h => absurd rfl h, fun _ => ⟨by rw [okA_of kt], d_isGoing V P hk8 (hc k hk8) ?_⟩⟩
      by_cases g2 : glM c0 c1 st k ≠ -1 ∧ cl k ≠ glM c0 c1 st k
      · rw [if_pos g2] at cs ⊢
        rw [if_pos (by omega)] at hf
        exact ⟨fun h => absurd h (by omega), fun _ => hf⟩
      · rw [if_neg g2] at cs ⊢
        rw [if_neg (by omega)] at hf
        exact ⟨fun _ => hf, fun h => absurd rfl h⟩
theorem d_nextOf {zz : Nat → Nat} {y k : Nat} {a : Int} {h : AH} {Q : Int → AH → Prop} {c0 c1 st s2 : Nat → Int} (V : MV0 h y c0 c1 s2) (P : MP h y c0 c1 (prA c0 c1 st)) (hk : k < Nc c0) (hn : pfA c0 c1 st k ≠ -1) (ha : haI h (y + 14) k = a) (ha2 : 0 ≤ a ∧ a < 80) (q : Q (nxc (s2 4) a (glM c0 c1 st k)) h) : w_X7_nextOf zz y k h Q := by
  have K := V.1
  have h0 := V.2.2.2.1.n
  obtain ⟨kt, kl, ⟨ka1, ka2, ka3, ka4, ka5, ka6, ka7, ka8, ka9, ka10, ka11, ka12, ka13, ka14, ka15, ka16⟩, ⟨kr1, kr2, kr3, kr4, kr5, kr6, kr7, kr8, kr9, kr10, kr11, kr12, kr13, kr14, kr15, kr16⟩⟩ := K
  have g2 := gl_bd (c1 := c1) (st := st) hk hn
  obtain ⟨g, hg⟩ : ∃ g, g = glM c0 c1 st k := ⟨_, rfl⟩
  rw [← hg] at q g2
  have f0 : ∀ x : Int, 0 ≤ ab1 x := fun x => by unfold ab1; split <;> omega
  have f1 : ∀ x : Int, ab1 x = 0 ↔ x = 0 := fun x => by unfold ab1; split <;> omega
  have v1 := ab1_bd (x := g % 16 - a % 16) (n := 15) (by omega) (by omega)
  have v2 := ab1_bd (x := g / 16 - a / 16) (n := 4) (by omega) (by omega)
  have w1 := f1 (g % 16 - a % 16)
  have w2 := f1 (g / 16 - a / 16)
  unfold w_X7_nextOf
  refine ⟨by rw [okA_of kt], d_goal V P hk hn ?_⟩
  rw [← hg]
  refine ⟨⟨by omega, by omega⟩, by rw [okA_of kt], y + 14, kr14, by rw [okI_of ka14]; omega, ?_⟩
  rw [ha]
  refine ⟨⟨by omega, by omega⟩, by unfold inR; omega, ?_⟩
  intro cx ecx
  refine ⟨by rw [okA_of kt], d_goal V P hk hn ?_⟩
  rw [← hg]
  refine ⟨⟨by omega, by omega⟩, by rw [okA_of kt], y + 14, kr14, by rw [okI_of ka14]; omega, ?_⟩
  rw [ha]
  refine ⟨⟨by omega, by omega⟩, by unfold inR; omega, ?_⟩
  intro rx erx
  rw [← ecx] at v1 w1
  rw [← erx] at v2 w2
  unfold nxc at q
  rw [← ecx, ← erx] at q
  refine ⟨by rw [okA_of kt], d_of V.1 V.2.1 (by omega) ?_⟩
  have e4 : s2 (4 : Int).toNat = s2 4 := rfl
  rw [e4]
  refine jn_a1 (if (if s2 4 = 0 then 0 < ab1 cx else if s2 4 = 1 then ab1 rx = 0 else ab1 rx ≤ ab1 cx) then 1 else 0) h (fun f hf => ?_) (jn_a1 _ h (fun f hf => ?_) q)
  · have go1 : (if s2 4 = 0 then 0 < ab1 cx else if s2 4 = 1 then ab1 rx = 0 else ab1 rx ≤ ab1 cx) → f 1 h := fun b => by rw [if_pos b] at hf; exact hf
    have go0 : ¬ (if s2 4 = 0 then 0 < ab1 cx else if s2 4 = 1 then ab1 rx = 0 else ab1 rx ≤ ab1 cx) → f 0 h := fun b => by rw [if_neg b] at hf; exact hf
    refine ⟨fun n0 => ⟨fun n1 => d_size (by omega) (d_size (by omega) ⟨fun hlt => go0 ?_, fun hge => go1 ?_⟩), fun e1 => ⟨fun n2 => go0 ?_, fun e2 => go1 ?_⟩⟩, fun e0 => ⟨fun e2 => go0 ?_, fun n2 => go1 ?_⟩⟩
    · rw [if_neg n0, if_neg n1]; omega
    · rw [if_neg n0, if_neg n1]; omega
    · rw [if_neg n0, if_pos e1]; omega
    · rw [if_neg n0, if_pos e1]; omega
    · rw [if_pos e0]; omega
    · rw [if_pos e0]; omega
  · by_cases b : (if s2 4 = 0 then 0 < ab1 cx else if s2 4 = 1 then ab1 rx = 0 else ab1 rx ≤ ab1 cx)
    · rw [if_pos b] at hf ⊢
      refine ⟨fun h => absurd h (by omega), fun _ => ⟨by rw [okA_of kt], y + 14, kr14, by rw [okI_of ka14]; omega, ?_⟩⟩
      rw [jn_def, ha]
      refine ⟨fun hle => ⟨by unfold inR; omega, ?_⟩, fun hgt => ⟨by unfold inR; omega, ?_⟩⟩
      · rw [if_neg (by omega)] at hf; exact hf
      · rw [if_pos (by omega)] at hf; exact hf
    · rw [if_neg b] at hf ⊢
      refine ⟨fun _ => ⟨by rw [okA_of kt], y + 14, kr14, by rw [okI_of ka14]; omega, ?_⟩, fun h => absurd rfl h⟩
      rw [jn_def, ha]
      refine ⟨fun hle => ⟨by unfold inR; omega, ?_⟩, fun hgt => ⟨by unfold inR; omega, ?_⟩⟩
      · rw [if_neg (by omega)] at hf; exact hf
      · rw [if_pos (by omega)] at hf; exact hf
theorem d_isTaken {zz : Nat → Nat} {y b : Nat} {a : Int} {cl : Nat → Int} {h : AH} {Q : Int → AH → Prop} {c0 c1 st s2 : Nat → Int} (V : MV0 h y c0 c1 s2) (P : MP h y c0 c1 (prA c0 c1 st)) (hc : ∀ k : Nat, k < Nc c0 → haI h (y + 14) k = cl k) (hb : cl b ≠ a) (q : Q (if 0 < cT (glM c0 c1 st) cl (Nc c0) a then 1 else 0) h) : w_X7_isTaken zz y a b h Q := by
  have K := V.1
  have h0 := V.2.2.2.1.n
  have n0 := V.2.2.1.1
  obtain ⟨kt, kl, ⟨ka1, ka2, ka3, ka4, ka5, ka6, ka7, ka8, ka9, ka10, ka11, ka12, ka13, ka14, ka15, ka16⟩, ⟨kr1, kr2, kr3, kr4, kr5, kr6, kr7, kr8, kr9, kr10, kr11, kr12, kr13, kr14, kr15, kr16⟩⟩ := K
  unfold w_X7_isTaken
  obtain ⟨I, hI⟩ : ∃ I : Nat → Int → Int → AH → Prop, ∀ m x i h', I m x i h' ↔ ∃ k : Nat, k ≤ Nc c0 ∧ m = Nc c0 - k ∧ i = (k : Int) ∧ x = (if 0 < cT (glM c0 c1 st) cl k a then 1 else 0) ∧ h' = h := ⟨_, fun _ _ _ _ => Iff.rfl⟩
  refine ⟨I, ⟨_, (hI _ _ _ _).mpr ⟨0, by omega, rfl, rfl, rfl, rfl⟩⟩, ?_⟩
  intro m x i h' hi9
  obtain ⟨k, hk, rfl, rfl, rfl, rfl⟩ := (hI _ _ _ _).mp hi9
  refine ⟨by rw [okA_of kt], y + 4, kr4, by rw [okI_of ka4]; omega, ?_⟩
  rw [n0]
  refine ⟨fun hc => ?_, fun hc9 => ?_⟩
  · obtain rfl : k = Nc c0 := by omega
    exact ⟨by split <;> simp, q⟩
  · have hk8 : k < Nc c0 := by omega
    have cs := cT_s (gl := glM c0 c1 st) (c := cl) (n := k) (q := a)
    have gn := gl_ne (c1 := c1) (st := st) hk8
    refine jn_a1 (if 0 < cT (glM c0 c1 st) cl (k + 1) a then 1 else 0) h' (fun f hf => ?_) ⟨by unfold inR; omega, fun x4 e4 => ⟨Nc c0 - (k + 1), by omega, (hI _ _ _ _).mpr ⟨k + 1, by omega, rfl, by omega, rfl, rfl⟩⟩⟩
    rw [jn_def]
    by_cases g : 0 < cT (glM c0 c1 st) cl k a
    · rw [if_pos g]
      rw [if_pos (by omega)] at hf
      exact ⟨fun _ => hf, fun h => absurd h (by omega)⟩
    · rw [if_neg g]
      refine ⟨fun h => absurd rfl h, fun _ => ?_⟩
      rw [jn_def]
      have no : ¬ (glM c0 c1 st k ≠ -1 ∧ cl k = a) → f 0 h' := by
        intro g2
        rw [if_neg g2] at cs
        rw [if_neg (by omega)] at hf
        exact hf
      refine ⟨fun e => no (fun h => ?_), fun ne => ⟨by rw [okA_of kt], y + 7, kr7, by rw [okI_of ka7]; omega, ?_⟩⟩
      · have : k = b := by omega
        rw [this] at h; exact hb h.2
      · rw [(P.1 k hk8).1]
        refine ⟨fun e1 => no (fun h => gn.mp h.1 e1), fun n1 => ⟨by rw [okA_of kt], y + 14, kr14, by rw [okI_of ka14]; omega, ?_⟩⟩
        rw [hc k hk8]
        refine ⟨fun n2 => no (fun h => n2 h.2), fun e2 => ?_⟩
        rw [if_pos ⟨gn.mpr n1, e2⟩] at cs
        rw [if_pos (by omega)] at hf
        exact hf
theorem d_firstMoving {zz : Nat → Nat} {y : Nat} {h : AH} {Q : Int → AH → Prop} {c0 c1 st s2 : Nat → Int} (V : MV0 h y c0 c1 s2) (P : MP h y c0 c1 (prA c0 c1 st)) (e6 : s2 6 = st 6) (q : Q (1 + sti c0 c1 st) h) : w_X7_firstMoving zz y h Q := by
  have K := V.1
  have h0 := V.2.2.2.1.n
  have g6 := V.2.2.2.2.2.2.2.2.2.2.2.1
  have cl := cK_le (f := kfA c0 c1 st) (n := Nc c0) (v := 4)
  have e : s2 (6 : Int).toNat = st 6 := e6
  unfold w_X7_firstMoving
  refine ⟨by rw [okA_of K.1], d_of K V.2.1 (by omega) ?_⟩
  rw [e]
  rw [e6] at g6
  refine ⟨by unfold inR; omega, by rw [okA_of K.1], d_ofKind0 V P ?_⟩
  show inR ((1 : Int) + st 6 + (cK (kfA c0 c1 st) (Nc c0) 4 : Int)) ∧ Q ((1 : Int) + st 6 + (cK (kfA c0 c1 st) (Nc c0) 4 : Int)) h
  refine ⟨by unfold inR; omega, ?_⟩
  unfold sti at q
  rw [show (1 : Int) + st 6 + (cK (kfA c0 c1 st) (Nc c0) 4 : Int) = 1 + (st 6 + (cK (kfA c0 c1 st) (Nc c0) 4 : Int)) by omega]
  exact q
