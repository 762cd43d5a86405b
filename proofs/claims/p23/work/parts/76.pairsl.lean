/-! SECOND LAW, 7: its pairs; a frame of its moving -/
set_option maxHeartbeats 1000000 in
theorem l_pairs {zz : Nat → Nat} {b p : Nat} {h : AH} {Q : AH → Prop} {c0 c1 st : Nat → Int} (K : LK h b c0 c1 st) (kp : hkd h p = (1, 16)) (hb : b + 4 ≤ p) (hp : p < hn h) (q : ∀ h' : AH, Gn h h' p (p + 1) → hn h' = hn h + 2 → PaR h' p (Nc c0) (prA c0 c1 st).1 (prA c0 c1 st).2.2.1 → Q h') : w_L_pairs zz b (b + 1) (b + 2) (b + 3) p h Q := by
  obtain ⟨n8, m8⟩ := K.2.2.2.2.1
  have lo := K.2.2.2.1
  unfold w_L_pairs
  obtain ⟨I, hI⟩ : ∃ I : Nat → Int → AH → Prop, ∀ m x g, I m x g ↔ ∃ k : Nat, k ≤ Nc c0 ∧ m = Nc c0 - k ∧ x = (k : Int) ∧ Fr h g p (p + 1) ∧ ∀ i : Nat, i < k → haI g p (2 * (i : Int)) = -1 ∧ haI g p (2 * (i : Int) + 1) = 4 := ⟨_, fun _ _ _ => Iff.rfl⟩
  refine ⟨I, ⟨_, (hI _ _ _).mpr ⟨0, Nat.zero_le _, rfl, rfl, Fr.refl _ _ _, fun i hi => absurd hi (Nat.not_lt_zero _)⟩⟩, ?_⟩
  intro m x g hi9
  obtain ⟨k, hk, rfl, rfl, F, A⟩ := (hI _ _ _).mp hi9
  have Kg := K.fr F (by omega)
  have kg : hkd g p = (1, 16) := by rw [F.kd]; exact kp
  rw [okI_of Kg.2.1.1, Kg.2.1.2.1]
  refine ⟨⟨by omega, by omega⟩, fun hc => ?_, fun hc => ⟨by unfold inR; omega, by rw [okW_of kg]; exact ⟨by omega, by omega, by rw [F.lo]; omega⟩, ?_⟩⟩
  · have hkn : k = Nc c0 := by omega
    subst hkn
    refine l_common Kg ⟨kg, by rw [F.lo]; omega, A⟩ hb (by rw [F.n]; exact hp) (fun g1 G1 n1 P1 => ?_)
    have K1 := Kg.gn G1 (by omega) (by rw [F.n]; omega)
    refine l_near K1 P1 (cmn_w _ (Nat.le_refl _)).1 hb (.inl ⟨rfl, rfl⟩) (fun g2 F2 P2 => ?_)
    have K2 := K1.fr F2 (by omega)
    refine l_near K2 P2 (nrs_w (by omega) canP_free (cmn_w _ (Nat.le_refl _)).1 40) hb (.inr ⟨rfl, rfl⟩) (fun g3 F3 P3 => ?_)
    refine q g3 (((F.gn (Nat.le_refl _) (Nat.le_refl _)).trans G1).trans ((F2.trans F3).gn (Nat.le_refl _) (Nat.le_refl _))) ?_ P3
    rw [F3.n, F2.n, n1, F.n]
  · intro g1 e1
    refine ⟨by unfold inR; omega, by unfold inR; omega, by rw [okW_of (show hkd g1 p = (1, 16) by rw [e1]; exact kg)]; exact ⟨by omega, by omega, by rw [e1]; show hlo g ≤ p; rw [F.lo]; omega⟩, ?_⟩
    intro g2 e2
    refine ⟨by unfold inR; omega, fun y hy => ⟨_, by omega, (hI _ _ _).mpr ⟨k + 1, by omega, rfl, by omega, ?_, fun i hi => ?_⟩⟩⟩
    · rw [e2, e1]; exact (F.tsa (by omega) (by omega)).tsa (by omega) (by omega)
    · rw [e2, haI_saI, if_pos rfl, e1, haI_saI, if_pos rfl, u1_apply, u1_apply, u1_apply, u1_apply]
      by_cases e : i = k
      · subst e
        rw [if_neg (by omega), if_pos rfl, if_pos rfl]
        exact ⟨rfl, rfl⟩
      · rw [if_neg (by omega), if_neg (by omega), if_neg (by omega), if_neg (by omega)]
        exact A i (by omega)
theorem poS_un {gl c : Nat → Int} {k : Nat} {v : Int} (hg : ¬ gl k = -1) (i : Nat) : poS gl (un c k v) i = if i = k then v else poS gl c i := by
  unfold poS
  by_cases e : i = k
  · subst e; rw [if_neg hg, if_pos rfl, un_s]
  · rw [if_neg e, un_n e]
set_option maxHeartbeats 2000000 in
theorem l_move {zz : Nat → Nat} {b p t : Nat} {h : AH} {Q : Int → AH → Prop} {c0 c1 st s0 : Nat → Int} {σ : PT} (K : LK h b c0 c1 st) (P : PaR h p (Nc c0) σ.1 σ.2.2.1) (w : pw (Nc c0) (Nc c1) σ) (hb : b + 4 ≤ p) (ht : t ≤ 190) (hs0 : ∀ k, k < Nc c0 → 0 ≤ s0 k ∧ s0 k < 80) (R : PoR h (p + 1) (Nc c0) (poS (glA c1 σ) (mfr (Nc c0) (glA c1 σ) s0 (st 4) (st 5) t).1)) (H : PaR h (p + 2) (Nc c0) (mfr (Nc c0) (glA c1 σ) s0 (st 4) (st 5) t).2.1 (mfr (Nc c0) (glA c1 σ) s0 (st 4) (st 5) t).2.2.1) (q : ∀ h' : AH, Fr h h' (p + 1) (p + 3) → PoR h' (p + 1) (Nc c0) (poS (glA c1 σ) (mfr (Nc c0) (glA c1 σ) s0 (st 4) (st 5) (t + 1)).1) → PaR h' (p + 2) (Nc c0) (mfr (Nc c0) (glA c1 σ) s0 (st 4) (st 5) (t + 1)).2.1 (mfr (Nc c0) (glA c1 σ) s0 (st 4) (st 5) (t + 1)).2.2.1 → Q ((mfr (Nc c0) (glA c1 σ) s0 (st 4) (st 5) (t + 1)).2.2.2.2 : Int) h') : w_L_move zz (b + 1) (b + 2) (b + 3) p (p + 1) (p + 2) h Q := by
  have Kz := K
  obtain ⟨n8, m8⟩ := K.2.2.2.2.1
  have lo := K.2.2.2.1
  have G := K.2.2.2.2.2.2.2
  have hp9 := G.2.2.2.2.2.1
  have hw2 := G.2.2.2.2.1
  obtain ⟨n, hn⟩ : ∃ n, n = Nc c0 := ⟨_, rfl⟩
  obtain ⟨gl, hgl⟩ : ∃ gl, gl = glA c1 σ := ⟨_, rfl⟩
  have Gl : ∀ k, k < n → gl k = -1 ∨ 0 ≤ gl k ∧ gl k < 80 := fun k hk => by
    rw [hgl]
    rcases glA_ok w k (by omega) with h | h
    · exact .inl h.1
    · exact .inr h.1
  rw [← hn, ← hgl] at R H q
  rw [← hn] at hs0 w P
  have mk := (mfr_k (w := st 4) hp9 Gl hs0 t).1
  have sw := msw_k (w := st 4) hp9 Gl (z := mrs (mfr n gl s0 (st 4) (st 5) t)) (t := t) (fun k hk => MK_cong (z := mfr n gl s0 (st 4) (st 5) t) ⟨rfl, rfl, rfl, rfl⟩ (mk k hk))
  obtain ⟨Z, hZ⟩ : ∃ Z : Nat → MT, Z = msw n gl (st 4) (st 5) (t + 1) (mrs (mfr n gl s0 (st 4) (st 5) t)) := ⟨_, rfl⟩
  have hZn : mfr n gl s0 (st 4) (st 5) (t + 1) = Z n := by rw [hZ]; rfl
  have hZs : ∀ k, Z (k + 1) = mst n gl (st 4) (st 5) (t + 1) (Z k) k := fun k => by rw [hZ]; rfl
  rw [hZn] at q
  rw [← hZ] at sw
  unfold w_L_move
  obtain ⟨I, hI⟩ : ∃ I : Nat → Int → Int → AH → Prop, ∀ m x y g, I m x y g ↔ ∃ k : Nat, k ≤ n ∧ m = n - k ∧ x = ((Z k).2.2.2.2 : Int) ∧ y = (k : Int) ∧ Fr h g (p + 1) (p + 3) ∧ PoR g (p + 1) n (poS gl (Z k).1) ∧ PaR g (p + 2) n (Z k).2.1 (Z k).2.2.1 := ⟨_, fun _ _ _ _ => Iff.rfl⟩
  refine ⟨I, ⟨_, (hI _ _ _ _).mpr ⟨0, Nat.zero_le _, rfl, by rw [hZ]; rfl, rfl, Fr.refl _ _ _, by rw [hZ]; exact R, by rw [hZ]; exact H⟩⟩, ?_⟩
  intro m x y g hi9
  obtain ⟨k, hk, rfl, rfl, rfl, F, R1, H1⟩ := (hI _ _ _ _).mp hi9
  have Kg := Kz.fr F (by omega)
  have Pg := P.fr F (by omega)
  have bd := (sw k hk).2.2
  have e0 : (mrs (mfr n gl s0 (st 4) (st 5) t)).2.2.2.2 = 0 := rfl
  rw [e0] at bd
  rw [okI_of Kg.2.1.1, Kg.2.1.2.1, ← hn]
  refine ⟨⟨by omega, by omega⟩, fun hc => ?_, fun hc => ⟨by unfold inR; omega, by rw [okI_of Pg.1]; exact ⟨by omega, by omega⟩, ?_⟩⟩
  · have hkn : k = n := by omega
    subst hkn
    exact q g F R1 H1
  have hkn : k < n := by omega
  obtain ⟨m1, m2, m3, m4, m5⟩ := (sw k hk).2.1 k (Nat.le_refl _) hkn
  have pk := (Pg.2.2 k hkn).1
  rw [pk]
  refine jn_in (fun K37 hK37 => ?_)
  have stay : ∀ (v : Int) (g' : AH), v = ((Z (k + 1)).2.2.2.2 : Int) → Fr h g' (p + 1) (p + 3) → PoR g' (p + 1) n (poS gl (Z (k + 1)).1) → PaR g' (p + 2) n (Z (k + 1)).2.1 (Z (k + 1)).2.2.1 → inR ((k : Int) + 1) ∧ ∀ u : Int, u = (k : Int) + 1 → ∃ m, m < n - k ∧ I m v u g' := by
    intro v g' hv h1 h2 h3
    exact ⟨by unfold inR; omega, fun u hu => ⟨_, by omega, (hI _ _ _ _).mpr ⟨k + 1, by omega, rfl, hv, by omega, h1, h2, h3⟩⟩⟩
  have go : K37 (gl k) g := by
    rw [hK37]
    simp only
    refine jn_in (fun K184 hK184 => ?_)
    have k184 : ∀ (v : Int) (g' : AH), v = ((Z (k + 1)).2.2.2.2 : Int) → Fr h g' (p + 1) (p + 3) → PoR g' (p + 1) n (poS gl (Z (k + 1)).1) → PaR g' (p + 2) n (Z (k + 1)).2.1 (Z (k + 1)).2.2.1 → K184 v g' := by
      intro v g' h0 h1 h2 h3
      rw [hK184]
      exact stay v g' h0 h1 h2 h3
    have no : ¬ (gl k ≠ -1 ∧ (Z k).1 k ≠ gl k) → K184 ((Z k).2.2.2.2 : Int) g := by
      intro hno
      have e : Z (k + 1) = Z k := by rw [hZs]; exact if_neg hno
      exact k184 _ g (by rw [e]) F (by rw [e]; exact R1) (by rw [e]; exact H1)
    refine ⟨fun hneg => no (fun h => by have := Gl k hkn; omega), fun hpos => ?_⟩
    have hg : ¬ gl k = -1 := by omega
    have hg8 : 0 ≤ gl k ∧ gl k < 80 := by have := Gl k hkn; omega
    have rk : haI g (p + 1) (k : Int) = (Z k).1 k := by rw [R1.2.2 k hkn]; exact if_neg hg
    rw [okI_of R1.1, rk]
    refine ⟨⟨by omega, by omega⟩, fun hne => ?_, fun heq => no (fun h => h.2 heq)⟩
    have s4 : haI g (b + 3) (4 : Int) = st 4 := Kg.2.2.1.2 4 (by omega)
    have s5 : ∀ g' : AH, Fr g g' (p + 1) (p + 3) → haI g' (b + 3) (5 : Int) = st 5 := fun g' F' => (Kg.fr F' (by omega)).2.2.1.2 5 (by omega)
    rw [okI_of Kg.2.2.1.1, s4]
    refine ⟨⟨by omega, by omega⟩, ⟨by omega, by omega⟩, l_next m1 hg8 hne hw2 ?_⟩
    have nx := nxc_ok (w := st 4) m1 hg8 hne
    obtain ⟨to, hto⟩ : ∃ to, to = nxc (st 4) ((Z k).1 k) (gl k) := ⟨_, rfl⟩
    rw [← hto] at nx ⊢
    -- is the cell full
    obtain ⟨J, hJ⟩ : ∃ J : Nat → Int → Int → AH → Prop, ∀ m x y g', J m x y g' ↔ ∃ i : Nat, i ≤ n ∧ m = n - i ∧ y = (i : Int) ∧ g' = g ∧ (x = 1 ∧ (∃ a, a < i ∧ gl a ≠ -1 ∧ (Z k).1 a = to) ∨ x = 0 ∧ ∀ a, a < i → gl a ≠ -1 → (Z k).1 a ≠ to) := ⟨_, fun _ _ _ _ => Iff.rfl⟩
    refine ⟨J, ⟨_, (hJ _ _ _ _).mpr ⟨0, Nat.zero_le _, rfl, rfl, rfl, .inr ⟨rfl, fun a ha => absurd ha (Nat.not_lt_zero _)⟩⟩⟩, ?_⟩
    intro m2' x2 y2 g2 hj9
    obtain ⟨i, hi, rfl, rfl, eg, hst⟩ := (hJ _ _ _ _).mp hj9
    subst eg
    rw [okI_of Kg.2.1.1, Kg.2.1.2.1, ← hn]
    refine ⟨⟨by omega, by omega⟩, fun hc2 => ?_, fun hc2 => ?_⟩
    · have hin : i = n := by omega
      subst hin
      have full : (x2 = 1 ↔ 0 < cT gl (Z k).1 i to) ∧ (x2 = 0 ∨ x2 = 1) := by
        rcases hst with ⟨h1, a, h2, h3, h4⟩ | ⟨h1, h2⟩
        · exact ⟨⟨fun _ => cT_pos.mpr ⟨a, h2, h3, h4⟩, fun _ => h1⟩, .inr h1⟩
        · refine ⟨⟨fun h => by omega, fun h => ?_⟩, .inl h1⟩
          obtain ⟨a, a1, a2, a3⟩ := cT_pos.mp h
          exact absurd a3 (h2 a a1 a2)
      have mstp : mst i gl (st 4) (st 5) (t + 1) (Z k) k = if 0 < cT gl (Z k).1 i to ∧ (Z k).2.1 k < st 5 then ((Z k).1, un (Z k).2.1 k ((Z k).2.1 k + 1), un (Z k).2.2.1 k ((Z k).2.2.1 k + 1), (Z k).2.2.2.1, (Z k).2.2.2.2 + 1) else (un (Z k).1 k to, un (Z k).2.1 k 0, (Z k).2.2.1, (if to = gl k then un (Z k).2.2.2.1 k ((t + 1 : Nat) : Int) else (Z k).2.2.2.1), (Z k).2.2.2.2) := by
        unfold mst
        rw [if_pos ⟨hg, hne⟩, ← hto]
      have hk2 := H1.2.2 k hkn
      refine jn_in (fun K169 hK169 => ?_)
      have mv : ¬ (0 < cT gl (Z k).1 i to ∧ (Z k).2.1 k < st 5) → K169 g2 := by
        intro hno
        have e : Z (k + 1) = (un (Z k).1 k to, un (Z k).2.1 k 0, (Z k).2.2.1, (if to = gl k then un (Z k).2.2.2.1 k ((t + 1 : Nat) : Int) else (Z k).2.2.2.1), (Z k).2.2.2.2) := by rw [hZs, mstp, if_neg hno]
        rw [hK169]
        simp only
        rw [okW_of H1.1]
        refine ⟨by unfold inR; omega, ⟨by omega, by omega, H1.2.1⟩, ?_⟩
        intro g3 e3
        rw [okW_of (show hkd g3 (p + 1) = (1, 8) by rw [e3]; exact R1.1)]
        refine ⟨⟨by omega, by omega, by rw [e3]; exact R1.2.1⟩, ?_⟩
        intro g4 e4
        refine k184 _ g4 (by rw [e]) ?_ ?_ ?_
        · rw [e4, e3]; exact (F.tsa (by omega) (by omega)).tsa (by omega) (by omega)
        · rw [e]
          refine ⟨by rw [e4, e3]; exact R1.1, by rw [e4, e3]; exact R1.2.1, fun a ha => ?_⟩
          show _ = poS gl (un (Z k).1 k to) a
          rw [poS_un hg, e4, haI_saI, if_pos rfl, u1_apply]
          by_cases ea : a = k
          · rw [ea, if_pos rfl, if_pos rfl]
          · rw [if_neg ea, if_neg (by omega), e3, haI_saI, if_neg (by omega)]; exact R1.2.2 a ha
        · rw [e]
          refine ⟨by rw [e4, e3]; exact H1.1, by rw [e4, e3]; exact H1.2.1, fun a ha => ?_⟩
          show _ = un (Z k).2.1 k 0 a ∧ _ = (Z k).2.2.1 a
          rw [e4, haI_saI, if_neg (by omega), e3, haI_saI, if_pos rfl, u1_apply, u1_apply]
          have ha2 := H1.2.2 a ha
          by_cases ea : a = k
          · subst ea; rw [un_s, if_pos rfl, if_neg (by omega)]; exact ⟨rfl, ha2.2⟩
          · rw [un_n ea, if_neg (by omega), if_neg (by omega)]; exact ha2
      refine ⟨fun hx => mv (fun h => by have := full.1.mpr h.1; omega), fun hx => ?_⟩
      rw [okI_of H1.1, okI_of (Kg.2.2.1.1), okW_of H1.1, hk2.1, s5 g2 (Fr.refl _ _ _)]
      refine ⟨by unfold inR; omega, ⟨by omega, by omega⟩, ⟨by omega, by omega⟩, fun hge => mv (fun h => by omega), fun hlt => ?_⟩
      have hyes : 0 < cT gl (Z k).1 i to ∧ (Z k).2.1 k < st 5 := ⟨full.1.mp (by omega), by omega⟩
      have e : Z (k + 1) = ((Z k).1, un (Z k).2.1 k ((Z k).2.1 k + 1), un (Z k).2.2.1 k ((Z k).2.2.1 k + 1), (Z k).2.2.2.1, (Z k).2.2.2.2 + 1) := by rw [hZs, mstp, if_pos hyes]
      refine ⟨by unfold inR; omega, ⟨by omega, by omega⟩, by unfold inR; omega, ⟨by omega, by omega, H1.2.1⟩, ?_⟩
      intro g3 e3
      have v3 : haI g3 (p + 2) (2 * (k : Int) + 1) = (Z k).2.2.1 k := by
        rw [e3, haI_saI, if_pos rfl, u1_apply, if_neg (by omega)]; exact hk2.2
      rw [okI_of (show hkd g3 (p + 2) = (1, 16) by rw [e3]; exact H1.1), okW_of (show hkd g3 (p + 2) = (1, 16) by rw [e3]; exact H1.1), v3]
      refine ⟨by unfold inR; omega, by unfold inR; omega, ⟨by omega, by omega⟩, by unfold inR; omega, ⟨by omega, by omega, by rw [e3]; exact H1.2.1⟩, ?_⟩
      intro g4 e4
      refine ⟨by unfold inR; omega, fun v hv => k184 _ g4 ?_ ?_ ?_ ?_⟩
      · rw [e, hv]; show _ = (((Z k).2.2.2.2 + 1 : Nat) : Int); omega
      · rw [e4, e3]; exact (F.tsa (by omega) (by omega)).tsa (by omega) (by omega)
      · rw [e]
        refine R1.cong (by rw [e4, e3]; rfl) ⟨by rw [e4, e3]; rfl, by rw [e4, haI_saI, if_neg (by omega), e3, haI_saI, if_neg (by omega)]⟩
      · rw [e]
        refine ⟨by rw [e4, e3]; exact H1.1, by rw [e4, e3]; exact H1.2.1, fun a ha => ?_⟩
        show _ = un (Z k).2.1 k _ a ∧ _ = un (Z k).2.2.1 k _ a
        rw [e4, haI_saI, if_pos rfl, u1_apply, u1_apply, e3, haI_saI, if_pos rfl, u1_apply, u1_apply]
        have ha2 := H1.2.2 a ha
        by_cases ea : a = k
        · subst ea; rw [un_s, un_s, if_neg (by omega), if_pos rfl, if_pos rfl]; exact ⟨rfl, rfl⟩
        · rw [un_n ea, un_n ea, if_neg (by omega), if_neg (by omega), if_neg (by omega), if_neg (by omega)]; exact ha2
    · have hin : i < n := by omega
      refine jn_in (fun K113 hK113 => ?_)
      have nxt : ∀ v : Int, (v = 1 ∧ (∃ a, a < i + 1 ∧ gl a ≠ -1 ∧ (Z k).1 a = to) ∨ v = 0 ∧ ∀ a, a < i + 1 → gl a ≠ -1 → (Z k).1 a ≠ to) → K113 v g2 := by
        intro v hv
        rw [hK113]
        exact ⟨by unfold inR; omega, fun u hu => ⟨_, by omega, (hJ _ _ _ _).mpr ⟨i + 1, by omega, rfl, by omega, rfl, hv⟩⟩⟩
      simp only [jn_def]
      refine ⟨fun hx => ?_, fun hx => ?_⟩
      · rcases hst with ⟨-, a, a1, a2⟩ | ⟨h1, -⟩
        · exact nxt 1 (.inl ⟨rfl, a, by omega, a2⟩)
        · exact absurd h1 hx
      have hno : ∀ a, a < i → gl a ≠ -1 → (Z k).1 a ≠ to := by
        rcases hst with ⟨h1, -⟩ | ⟨-, h2⟩
        · omega
        · exact h2
      have out : (gl i ≠ -1 → (Z k).1 i ≠ to) → K113 0 g2 := fun hq => nxt 0 (.inr ⟨rfl, fun a ha => by
        by_cases ea : a = i
        · rw [ea]; exact hq
        · exact hno a (by omega)⟩)
      refine ⟨fun hik => out (fun _ => ?_), fun hik => ?_⟩
      · have : i = k := by omega
        rw [this]; exact nx.2.2.2.symm
      rw [okI_of R1.1, R1.2.2 i hin]
      refine ⟨⟨by omega, by omega⟩, fun hne2 => out (fun hgi => ?_), fun heq2 => nxt 1 (.inl ⟨rfl, i, by omega, ?_⟩)⟩
      · unfold poS at hne2; rw [if_neg hgi] at hne2; exact hne2
      · have hgi : ¬ gl i = -1 := fun hh => by
          unfold poS at heq2; rw [if_pos hh] at heq2; omega
        unfold poS at heq2; rw [if_neg hgi] at heq2
        exact ⟨hgi, heq2⟩
  rcases gl_of (c1 := c1) w hkn with ⟨h1, h2⟩ | ⟨j, h1, h2, h3⟩
  · rw [← hgl] at h2
    rw [h1]
    refine ⟨fun h => absurd h (by omega), fun _ => ?_⟩
    rw [h2] at go; exact go
  · rw [← hgl] at h3
    rw [h2]
    refine ⟨fun _ => ?_, fun h => absurd (by omega) h⟩
    rw [okI_of Pg.1, okI_of Kg.1.2.1, (Kg.1.2.2 j h1).1, ← h3]
    exact ⟨by unfold inR; omega, ⟨by omega, by omega⟩, by unfold inR; omega, ⟨by omega, by omega⟩, go⟩
