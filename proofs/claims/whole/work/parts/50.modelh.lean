/-! THE PURE LAYER, 34: what the model tells of a frame -/
set_option maxHeartbeats 2000000 in
theorem d_frameNow {zz : Nat → Nat} {y F : Nat} {f v : Int} {h : AH} {Q : Int → AH → Prop} {c0 c1 st : Nat → Int} (M : MLy h y c0 c1 st F) (hf : 0 ≤ f ∧ f ≤ 900) (hv : 0 ≤ v ∧ v ≤ 4) (q : Q (fraA c0 c1 st F f v) h) : w_X7_frameNow zz y f v h Q := by
  have ⟨sb, h0, h1, hF, nb⟩ := M.bd
  have M0 := M
  obtain ⟨V, P, ⟨M1, M2, M3⟩, iF⟩ := M
  have gs := V.2.2.2.2.2
  have K := V.1
  have n0 := V.2.2.1.1
  obtain ⟨kt, kl, ⟨ka1, ka2, ka3, ka4, ka5, ka6, ka7, ka8, ka9, ka10, ka11, ka12, ka13, ka14, ka15, ka16⟩, ⟨kr1, kr2, kr3, kr4, kr5, kr6, kr7, kr8, kr9, kr10, kr11, kr12, kr13, kr14, kr15, kr16⟩⟩ := K
  have K := V.1
  unfold fraA at q
  unfold w_X7_frameNow
  refine ⟨fun n2 => ⟨fun n4 => ?_, fun e4 => ?_⟩, fun e2 => ⟨by rw [okA_of kt], d_firstMoving V P rfl ?_⟩⟩
  · obtain ⟨s, hs⟩ : ∃ s : Nat → Int, ∀ c, s c = if v = 0 then cwl c0 c1 st F f c else if v = 1 then (if f = 0 then 0 else ctd c0 c1 st F f c) else shd c0 c1 st F f (Nc c0) c := ⟨_, fun _ => rfl⟩
    have s01 : ∀ c, 0 ≤ s c ∧ s c ≤ 1 := by
      intro c
      rw [hs]; split
      · unfold cwl; split <;> omega
      · split
        · split
          · omega
          · unfold ctd; split <;> omega
        · unfold shd; split <;> omega
    have q : Q (sN s 80) h := by
      by_cases e0 : v = 0
      · rw [if_pos e0] at q
        rw [sN_ext (g := cwl c0 c1 st F f) (fun c hc => by rw [hs, if_pos e0])]; exact q
      · rw [if_neg e0] at q
        by_cases e1 : v = 1
        · rw [if_pos e1] at q
          by_cases ef : f = 0
          · rw [if_pos ef] at q
            have z : ∀ m, sN s m = 0 := by
              intro m
              induction m with
              | zero => rfl
              | succ m im => rw [sN_s, im, hs, if_neg e0, if_pos e1, if_pos ef]; rfl
            rw [z]; exact q
          · rw [if_neg ef] at q
            rw [sN_ext (g := ctd c0 c1 st F f) (fun c hc => by rw [hs, if_neg e0, if_pos e1, if_neg ef])]; exact q
        · rw [if_neg e1, if_neg n2, if_pos (by omega)] at q
          rw [sN_ext (g := shd c0 c1 st F f (Nc c0)) (fun c hc => by rw [hs, if_neg e0, if_neg e1])]; exact q
    obtain ⟨I, hI⟩ : ∃ I : Nat → Int → Int → AH → Prop, ∀ m x i h', I m x i h' ↔ ∃ k : Nat, k ≤ 80 ∧ m = 80 - k ∧ i = (k : Int) ∧ x = sN s k ∧ h' = h := ⟨_, fun _ _ _ _ => Iff.rfl⟩
    refine ⟨I, ⟨80, (hI _ _ _ _).mpr ⟨0, by omega, rfl, rfl, rfl, rfl⟩⟩, ?_⟩
    intro m x i h' hi9
    obtain ⟨k, hk, rfl, rfl, rfl, rfl⟩ := (hI _ _ _ _).mp hi9
    refine ⟨fun hc => ?_, fun hc => ?_⟩
    · obtain rfl : k = 80 := by omega
      exact q
    · have sx := sN_bd (f := s) (n := k) (b := 1) (fun j hj => s01 j)
      have sk := s01 k
      have go : ∀ t : Int, t = s k → (inR (sN s k + t) ∧ ∀ x3 : Int, x3 = (sN s k + t) → inR ((k : Int) + 1) ∧ ∀ x4 : Int, x4 = ((k : Int) + 1) → ∃ m, m < 80 - k ∧ I m x3 x4 h') := by
        intro t ht
        exact ⟨by unfold inR; omega, fun x3 e3 => ⟨by unfold inR; omega, fun x4 e4 => ⟨80 - (k + 1), by omega, (hI _ _ _ _).mpr ⟨k + 1, by omega, rfl, by omega, by rw [sN_s, e3, ht], rfl⟩⟩⟩⟩
      rw [hs] at go
      rw [jn_def]
      refine ⟨fun m0 => ⟨fun m1 => ⟨by rw [okA_of kt], d_piecesIn M0 (by omega) ?_⟩, fun e1 => ?_⟩, fun e0 => ⟨by rw [okA_of kt], d_shown M0 (by omega) ?_⟩⟩
      · rw [if_neg m0, if_neg m1] at go
        unfold shd at go
        rw [jn_def]
        refine ⟨fun hle => go 0 (by rw [if_neg (by omega)]), fun hgt => go 1 (by rw [if_pos (by omega)])⟩
      · rw [if_neg m0, if_pos e1] at go
        unfold ctd at go
        refine jn_a1 (if f = 0 then 0 else if shA c0 c1 st F f k = shA c0 c1 st F (f - 1) k then 0 else 1) h' (fun g hg => ?_) (go _ rfl)
        rw [jn_def]
        refine ⟨fun hle => ?_, fun hgt => ⟨by rw [okA_of kt], d_shown M0 (by omega) ⟨by unfold inR; omega, by rw [okA_of kt], d_shown M0 (by omega) ⟨fun e => ?_, fun ne => ?_⟩⟩⟩⟩
        · rw [if_pos (by omega)] at hg; exact hg
        · rw [if_neg (by omega), if_pos e] at hg; exact hg
        · rw [if_neg (by omega), if_neg ne] at hg; exact hg
      · rw [if_pos e0] at go
        unfold cwl at go
        rw [jn_def]
        refine ⟨fun ne => go 1 (by rw [if_neg ne]), fun e => go 0 (by rw [if_pos e])⟩
  · rw [if_neg (by omega), if_neg (by omega), if_neg (by omega), if_neg (by omega)] at q
    have s01 : ∀ c, 0 ≤ plf c0 c1 st f c ∧ plf c0 c1 st f c ≤ 1 := by
      intro c; unfold plf; split <;> omega
    obtain ⟨I, hI⟩ : ∃ I : Nat → Int → Int → AH → Prop, ∀ m x i h', I m x i h' ↔ ∃ k : Nat, k ≤ Nc c0 ∧ m = Nc c0 - k ∧ i = (k : Int) ∧ x = sN (plf c0 c1 st f) k ∧ h' = h := ⟨_, fun _ _ _ _ => Iff.rfl⟩
    refine ⟨I, ⟨_, (hI _ _ _ _).mpr ⟨0, by omega, rfl, rfl, rfl, rfl⟩⟩, ?_⟩
    intro m x i h' hi9
    obtain ⟨k, hk, rfl, rfl, rfl, rfl⟩ := (hI _ _ _ _).mp hi9
    refine ⟨by rw [okA_of kt], y + 4, kr4, by rw [okI_of ka4]; omega, ?_⟩
    rw [n0]
    refine ⟨fun hc => ?_, fun hc => ?_⟩
    · obtain rfl : k = Nc c0 := by omega
      exact q
    · have hk8 : k < Nc c0 := by omega
      have sx := sN_bd (f := plf c0 c1 st f) (n := k) (b := 1) (fun j hj => s01 j)
      have sk := s01 k
      refine ⟨by rw [okA_of kt], d_placeIn M0 (by omega) hk8 ?_⟩
      rw [jn_def]
      have go : ∀ t : Int, t = plf c0 c1 st f k → (inR (sN (plf c0 c1 st f) k + t) ∧ ∀ x3 : Int, x3 = (sN (plf c0 c1 st f) k + t) → inR ((k : Int) + 1) ∧ ∀ x4 : Int, x4 = ((k : Int) + 1) → ∃ m, m < Nc c0 - k ∧ I m x3 x4 h') := by
        intro t ht
        exact ⟨by unfold inR; omega, fun x3 e3 => ⟨by unfold inR; omega, fun x4 e4 => ⟨Nc c0 - (k + 1), by omega, (hI _ _ _ _).mpr ⟨k + 1, by omega, rfl, by omega, by rw [sN_s, e3, ht], rfl⟩⟩⟩⟩
      refine ⟨fun ne => go 1 ?_, fun e => go 0 ?_⟩
      · unfold plf
        rw [if_neg (fun h => ne (by unfold plA; rw [if_pos h]))]
      · unfold plf
        by_cases g : kfA c0 c1 st k = 4 ∧ gonA c0 c1 st k ≤ f
        · rw [if_pos g]
        · unfold plA at e
          rw [if_neg g] at e
          have := (mfA_bd (c1 := c1) gs (t := mvd c0 c1 st F f) hk8).1
          omega
  · rw [if_neg (by omega), if_neg (by omega), if_pos e2] at q
    refine ⟨by unfold inR; omega, ?_⟩
    intro mv emv
    rw [M1]
    refine ⟨by rw [okA_of kt], by unfold inR; omega, d_within ?_⟩
    rw [jn_def]
    unfold hin at q
    by_cases b : 0 ≤ mv ∧ mv ≤ (F : Int) - 1
    · rw [if_pos b]
      rw [if_pos (by omega)] at q
      refine ⟨fun h => absurd h (by omega), fun _ => ⟨by rw [okA_of kt], y + 11, kr11, by rw [okI_of ka11]; omega, ?_⟩⟩
      obtain ⟨u, hu⟩ : ∃ u : Nat, mv = (u : Int) := ⟨mv.toNat, by omega⟩
      subst hu
      rw [(M3 u (by omega)).1]
      rw [show (f - sti c0 c1 st).toNat = u + 1 by omega] at q
      exact q
    · rw [if_neg b]
      rw [if_neg (by omega)] at q
      exact ⟨fun _ => q, fun h => absurd rfl h⟩
