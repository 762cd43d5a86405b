/-! SECOND LAW, 16: an action -/
theorem dsv_le {D : DT} (h : D.2.2.1 ≤ 6) : (dsv D).2.2.1 = if D.2.2.1 = 6 then 6 else D.2.2.1 + 1 := by
  unfold dsv
  split
  next e => rfl
  next e => rfl
theorem cOf_3 {D : DT} {w : Nat} (hw : w < 2) : cOf D (w : Int) = if w = 0 then D.1.1 else D.1.2.1 := by
  unfold cOf
  by_cases e : w = 0
  · rw [if_pos (by omega), if_pos e]
  · rw [if_neg (by omega), if_neg e]
theorem LK3.tx {h : AH} {b w : Nat} {D : DT} (K : LK3 h b D.1) (hw : w < 2) : TxL h (b + w) (cOf D (w : Int)) ∧ haI h (b + 2) (w : Int) = (Nc (cOf D (w : Int)) : Int) ∧ Nc (cOf D (w : Int)) ≤ 8 := by
  have : w = 0 ∨ w = 1 := by omega
  rcases this with rfl | rfl
  · rw [cOf_3 (by omega), if_pos rfl]
    exact ⟨K.1.1, K.2.1.2.1, K.2.2.2.2.1.1⟩
  · rw [cOf_3 (by omega), if_neg (by omega)]
    exact ⟨K.1.2, K.2.1.2.2, K.2.2.2.2.1.2⟩
theorem nFr_D {zz : Nat → Nat} {x : Nat} {g : AH} {Q : Int → AH → Prop} {D : DT} {F : Nat} (C : CR g zz x D) (hF : isFF D.1.1 D.1.2.1 D.1.2.2 F) (q : ∀ g' : AH, Ga g g' x (x + 113) → CR g' zz x D → Q (nFr D.1.1 D.1.2.1 D.1.2.2 F) g') : w_X6_count zz x (0 : Int) g Q (fun _ _ => False) := ct0 C (c0 := D.1.1) (c1 := D.1.2.1) (st := D.1.2.2) rfl hF (by omega) q
set_option maxHeartbeats 4000000 in
theorem l_act {zz : Nat → Nat} {x : Nat} {ac xx yy : Int} {h : AH} {Q : Int → AH → Prop} {D : DT} (C : CR h zz x D) (K : LK3 h (x + 113) D.1) (ha : 0 ≤ ac ∧ ac < 14) (q : ∀ (h' : AH) (D' : DT), Ga h h' x (x + 117) → CR h' zz x D' → LK3 h' (x + 113) D'.1 → D'.2.2.1 = (dsv D).2.2.1 → Q 1 h') : w_L_act zz x ac xx yy (x + 113) (x + 113 + 1) (x + 113 + 2) (x + 113 + 3) h Q := by
  have lo := K.2.2.2.1
  have kd := K.2.1.1
  have kse := K.2.2.1.1
  have X : ∀ (g : AH) (E : DT), CR g zz x E → okA g x 6 := fun g E Cg => by rw [okA_of Cg.1.1]
  unfold w_L_act
  refine ⟨fun h4 => ⟨fun h9 => ⟨fun hset => ?_, fun hswap => ?_⟩, fun h9 => ?_⟩, fun h4 => ?_⟩
  · -- a setting
    refine l_at (by omega) (fun s s0 s8 => ?_)
    obtain ⟨n, rfl⟩ : ∃ n : Nat, s = (n : Int) := ⟨s.toNat, by omega⟩
    have hn : n < 8 := by omega
    have sv := K.2.2.1.2 n hn
    rw [okI_of kse]
    refine ⟨⟨by omega, by omega⟩, fun was hwas => ?_⟩
    rw [sv] at hwas
    refine jn_in (fun K346 hK346 => ?_)
    have go : ∀ v : Int, lowV (n : Int) ≤ v ∧ v ≤ topV (n : Int) → K346 v h := by
      intro v hv
      rw [hK346]
      simp only
      rw [okW_of kse]
      refine ⟨⟨by omega, by omega, by omega⟩, fun g1 e1 => ?_⟩
      have F1 : Fr h g1 (x + 113 + 3) (x + 113 + 4) := by rw [e1]; exact Fr.sa (by omega) (by omega)
      have C1 : CR g1 zz x D := C.out F1 (by omega)
      have v1 : haI g1 (x + 113 + 3) (n : Int) = v := by rw [e1, haI_saI, if_pos rfl, u1_apply, if_pos rfl]
      rw [okI_of (show hkd g1 (x + 113 + 3) = (1, 8) by rw [F1.kd]; exact kse), v1]
      refine ⟨⟨by omega, by omega⟩, X g1 D C1, ?_⟩
      refine c_set C1 (fun _ _ g2 G2 C2 => ?_) (fun hno _ => hno ⟨by omega, by omega⟩) (fun _ hno _ => hno hv)
      rw [toN]
      refine jn_in (fun K368 hK368 => ?_)
      refine ⟨fun hne => absurd hwas.symm hne, fun _ => ?_⟩
      rw [hK368]
      refine ⟨.inr rfl, q g2 _ ((F1.ga (by omega) (by omega)).trans (G2.wide (Nat.le_refl _) (by omega))) C2 ?_ rfl⟩
      have ai : ∀ r, x + 113 ≤ r → haI g2 r = haI g1 r := fun r hr => (G2.2.2.2 r (by omega)).2.2.2.1
      have kk : hkd g2 = hkd h := by rw [G2.1, F1.kd]
      have ll : hlo g2 = hlo h := by rw [G2.2.1, F1.lo]
      have ot : ∀ r, x + 113 ≤ r → r ≠ x + 113 + 3 → haI g2 r = haI h r := fun r h1 h2 => by rw [ai r h1, e1, haI_saI, if_neg h2]
      obtain ⟨⟨T0, T1⟩, ⟨k2, d0, d1⟩, ⟨k3, ts⟩, l0, ⟨m0, m1⟩, G0, G1, Gs⟩ := K
      refine ⟨⟨⟨by rw [kk]; exact T0.1, fun i hi => by rw [ot _ (by omega) (by omega)]; exact T0.2 i hi⟩, ⟨by rw [kk]; exact T1.1, fun i hi => by rw [ot _ (by omega) (by omega)]; exact T1.2 i hi⟩⟩, ⟨by rw [kk]; exact k2, by rw [ot _ (by omega) (by omega)]; exact d0, by rw [ot _ (by omega) (by omega)]; exact d1⟩, ⟨by rw [kk]; exact k3, fun k hk => ?_⟩, by rw [ll]; exact l0, ⟨m0, m1⟩, G0, G1, C2.2.2.2.1.2.2⟩
      show _ = un D.1.2.2 n v k
      rw [ai _ (by omega), e1, haI_saI, if_pos rfl, u1_apply]
      by_cases ek : k = n
      · rw [ek, un_s, if_pos rfl]
      · rw [un_n ek, if_neg (by omega)]; exact ts k hk
    have lw : lowV (n : Int) = if n = 0 then 1 else 0 := by
      unfold lowV
      by_cases e : n = 0
      · rw [if_pos (by omega), if_pos e]
      · rw [if_neg (by omega), if_neg e]
    have tp : topV (n : Int) = if n = 0 then 9 else if n < 3 then 200 else if n = 3 then 1 else if n = 4 then 2 else if n = 5 then 9 else 20 := by
      have : n = 0 ∨ n = 1 ∨ n = 2 ∨ n = 3 ∨ n = 4 ∨ n = 5 ∨ n = 6 ∨ n = 7 := by omega
      rcases this with rfl | rfl | rfl | rfl | rfl | rfl | rfl | rfl <;> rfl
    refine ⟨fun n0 => ⟨fun n1 => ⟨fun n2 => ⟨fun n3 => ⟨fun n4 => ⟨fun n5 => ?_, fun n5 => ?_⟩, fun n4 => ?_⟩, fun n3 => ?_⟩, fun n2 => ?_⟩, fun n1 => ?_⟩, fun n0 => ?_⟩
    · refine l_at (by omega) (fun r r0 r1 => go r ?_)
      rw [lw, tp, if_neg (by omega), if_neg (by omega), if_neg (by omega), if_neg (by omega), if_neg (by omega), if_neg (by omega)]
      omega
    · refine l_at (by omega) (fun r r0 r1 => go r ?_)
      rw [lw, tp, if_neg (by omega), if_neg (by omega), if_neg (by omega), if_neg (by omega), if_neg (by omega), if_pos (by omega)]
      omega
    · refine l_at (by omega) (fun r r0 r1 => go r ?_)
      rw [lw, tp, if_neg (by omega), if_neg (by omega), if_neg (by omega), if_neg (by omega), if_pos (by omega)]
      omega
    · refine l_at (by omega) (fun r r0 r1 => go r ?_)
      rw [lw, tp, if_neg (by omega), if_neg (by omega), if_neg (by omega), if_pos (by omega)]
      omega
    · refine l_at (by omega) (fun r r0 r1 => go r ?_)
      rw [lw, tp, if_neg (by omega), if_neg (by omega), if_pos (by omega)]
      omega
    · refine l_at (by omega) (fun r r0 r1 => go r ?_)
      rw [lw, tp, if_neg (by omega), if_neg (by omega), if_pos (by omega)]
      omega
    · refine l_at (by omega) (fun r r0 r1 => ⟨by unfold inR; omega, go _ ?_⟩)
      rw [lw, tp, if_pos (by omega), if_pos (by omega)]
      omega
  · -- both texts
    obtain ⟨⟨T0, T1⟩, ⟨k2, d0, d1⟩, ⟨k3, ts⟩, l0, ⟨m0, m1⟩, G0, G1, Gs⟩ := id K
    rw [okI_of kd]
    refine ⟨⟨by omega, by omega⟩, fun was hwas => ?_⟩
    rw [d0] at hwas
    rw [okI_of kd, okW_of kd, d1]
    refine ⟨⟨by omega, by omega⟩, ⟨by omega, by omega, by omega⟩, fun g1 e1 => ?_⟩
    rw [okW_of (show hkd g1 (x + 113 + 2) = (1, 3) by rw [e1]; exact kd)]
    refine ⟨⟨by omega, by omega, by rw [e1]; show hlo h ≤ _; omega⟩, fun g2 e2 => ?_⟩
    have F2 : Fr h g2 (x + 113 + 2) (x + 113 + 3) := by rw [e2, e1]; exact (Fr.sa (by omega) (by omega)).tsa (by omega) (by omega)
    have dd : ∀ j : Int, haI g2 (x + 113 + 2) j = if j = 1 then (Nc D.1.1 : Int) else if j = 0 then (Nc D.1.2.1 : Int) else haI h (x + 113 + 2) j := fun j => by
      rw [e2, haI_saI, if_pos rfl, u1_apply, e1, haI_saI, if_pos rfl, u1_apply, hwas]
    obtain ⟨I, hI⟩ : ∃ I : Nat → Int → AH → Prop, ∀ m y g, I m y g ↔ ∃ (k : Nat) (f1 f2 : Int → Int), k ≤ 16 ∧ m = 16 - k ∧ y = (k : Int) ∧ g = saI (saI g2 (x + 113) f1) (x + 113 + 1) f2 ∧ (∀ j : Int, f1 j = if 0 ≤ j ∧ j < (k : Int) then haI h (x + 113 + 1) j else haI h (x + 113) j) ∧ ∀ j : Int, f2 j = if 0 ≤ j ∧ j < (k : Int) then haI h (x + 113) j else haI h (x + 113 + 1) j := ⟨_, fun _ _ _ => Iff.rfl⟩
    refine ⟨I, ⟨_, (hI _ _ _).mpr ⟨0, haI h (x + 113), haI h (x + 113 + 1), by omega, rfl, rfl, ?_, fun j => by rw [if_neg (by omega)], fun j => by rw [if_neg (by omega)]⟩⟩, ?_⟩
    · have a1 : haI h (x + 113) = haI g2 (x + 113) := (F2.ai (by omega)).symm
      have a2 : haI h (x + 113 + 1) = haI g2 (x + 113 + 1) := (F2.ai (by omega)).symm
      rw [a1, a2, saI_self, saI_self]
    intro m y g3 hi9
    obtain ⟨k, f1, f2, hk, rfl, rfl, e3, hf1, hf2⟩ := (hI _ _ _).mp hi9
    have F3 : Fr h g3 (x + 113) (x + 117) := by
      rw [e3]; exact ((F2.wide (by omega) (by omega)).tsa (by omega) (by omega)).tsa (by omega) (by omega)
    have C3 : CR g3 zz x D := C.out F3 (by omega)
    have v1 : haI g3 (x + 113) = f1 := by rw [e3, haI_saI, if_neg (by omega), haI_saI, if_pos rfl]
    have v2 : haI g3 (x + 113 + 1) = f2 := by rw [e3, haI_saI, if_pos rfl]
    refine ⟨fun hc => ⟨X g3 D C3, ?_⟩, fun hc => ?_⟩
    · have hk16 : k = 16 := by omega
      refine c_swap C3 (fun F g4 G4 C4 hF => ⟨X g4 _ C4, ?_⟩)
      refine nFr_D C4 hF (fun g5 G5 C5 => ?_)
      refine jn_in (fun K232 hK232 => ?_)
      refine ⟨fun hne => absurd rfl hne, fun _ => ?_⟩
      rw [hK232]
      have G35 := G4.trans G5
      refine ⟨.inr rfl, q g5 _ ((F3.ga (by omega) (by omega)).trans (G35.wide (Nat.le_refl _) (by omega))) C5 ?_ rfl⟩
      have ai : ∀ r, x + 113 ≤ r → haI g5 r = haI g3 r := fun r hr => (G35.2.2.2 r (by omega)).2.2.2.1
      have kk : hkd g5 = hkd h := by rw [G35.1, F3.kd]
      have ll : hlo g5 = hlo h := by rw [G35.2.1, F3.lo]
      have d5 : ∀ j : Int, haI g5 (x + 113 + 2) j = haI g2 (x + 113 + 2) j := fun j => by rw [ai _ (by omega), e3, haI_saI, if_neg (by omega), haI_saI, if_neg (by omega)]
      refine ⟨⟨⟨by rw [kk]; exact T0.1, fun i hi => ?_⟩, ⟨by rw [kk]; exact T1.1, fun i hi => ?_⟩⟩, ⟨by rw [kk]; exact k2, by rw [d5, dd, if_neg (by omega), if_pos rfl]; rfl, by rw [d5, dd, if_pos rfl]; rfl⟩, ⟨by rw [kk]; exact k3, fun k hk => ?_⟩, by rw [ll]; exact l0, ⟨m1, m0⟩, G1, G0, Gs⟩
      · have hi : i < Nc D.1.2.1 := hi
        rw [ai _ (by omega), v1, hf1, hf1, if_pos (by omega), if_pos (by omega)]
        exact T1.2 i hi
      · have hi : i < Nc D.1.1 := hi
        rw [ai _ (by omega), v2, hf2, hf2, if_pos (by omega), if_pos (by omega)]
        exact T0.2 i hi
      · rw [ai _ (by omega), e3, haI_saI, if_neg (by omega), haI_saI, if_neg (by omega), F2.ai (by omega)]
        exact ts k hk
    · have hk16 : k < 16 := by omega
      have ka : hkd g3 (x + 113) = (1, 18) := by rw [F3.kd]; exact T0.1
      have kb : hkd g3 (x + 113 + 1) = (1, 18) := by rw [F3.kd]; exact T1.1
      rw [okI_of ka, v1]
      refine ⟨⟨by omega, by omega⟩, fun va hva => ?_⟩
      rw [okI_of kb, okW_of ka, v2]
      refine ⟨⟨by omega, by omega⟩, ⟨by omega, by omega, by rw [F3.lo]; omega⟩, fun g4 e4 => ?_⟩
      have vb : haI g4 (x + 113 + 1) = f2 := by rw [e4, haI_saI, if_neg (by omega)]; exact v2
      rw [okW_of (show hkd g4 (x + 113 + 1) = (1, 18) by rw [e4]; exact kb), vb]
      refine ⟨⟨by omega, by omega, by rw [e4]; show hlo g3 ≤ _; rw [F3.lo]; omega⟩, fun g5 e5 => ⟨by unfold inR; omega, fun u hu => ⟨_, by omega, (hI _ _ _).mpr ⟨k + 1, u1 f1 k (f2 k), u1 f2 k va, by omega, rfl, by omega, ?_, fun j => ?_, fun j => ?_⟩⟩⟩⟩
      · rw [e5, e4, e3]
        rw [saI_comm (a := x + 113 + 1) (b := x + 113) (by omega), saI_saI, saI_saI]
      · rw [u1_apply, hf1, hf2]
        by_cases ej : j = (k : Int)
        · rw [if_pos ej, if_neg (by omega), if_pos (by omega), ej]
        · rw [if_neg ej]
          by_cases e6 : 0 ≤ j ∧ j < (k : Int)
          · rw [if_pos e6, if_pos (by omega)]
          · rw [if_neg e6, if_neg (by omega)]
      · rw [u1_apply, hf2]
        by_cases ej : j = (k : Int)
        · rw [if_pos ej, if_pos (by omega), hva, hf1, if_neg (by omega), ej]
        · rw [if_neg ej]
          by_cases e6 : 0 ≤ j ∧ j < (k : Int)
          · rw [if_pos e6, if_pos (by omega)]
          · rw [if_neg e6, if_neg (by omega)]
  · -- a letter
    refine l_at (by omega) (fun wi w0 w1 => ?_)
    obtain ⟨w, rfl⟩ : ∃ w : Nat, wi = (w : Int) := ⟨wi.toNat, by omega⟩
    have hw : w < 2 := by omega
    obtain ⟨T, dv, n8⟩ := LK3.tx K hw
    refine ⟨⟨by omega, by omega⟩, l_at (by omega) (fun r r0 r1 => ⟨by unfold inR; omega, l_at (by omega) (fun cc c0 c1 => ⟨by unfold inR; omega, fun pc hpc => ⟨⟨by omega, by omega⟩, l_at (by omega) (fun z z0 z1 => ?_)⟩⟩)⟩)⟩
    obtain ⟨p, rfl⟩ : ∃ p : Nat, pc = (p : Int) := ⟨pc.toNat, by omega⟩
    have hp : p < 80 := by omega
    refine jn_in (fun K97 hK97 => ?_)
    have go : ∀ v : Int, (v = 32 ∨ 97 ≤ v ∧ v ≤ 122 ∧ Nc (cOf D (w : Int)) ≤ 7) → K97 v h := by
      intro v hv
      rw [hK97]
      refine ⟨⟨by omega, by omega⟩, ⟨by omega, by omega⟩, X h D C, ?_⟩
      have hvl : isL v = true ∨ v = 32 := by
        rcases hv with h | h
        · exact .inr h
        · exact .inl (isL_i.mpr ⟨h.1, h.2.1⟩)
      have pe : (16 * ((p : Int) / 16) + (p : Int) % 16).toNat = p := by omega
      refine c_put C (fun _ _ _ _ g1 G1 C1 => ?_) (fun hno _ => hno ⟨by omega, by omega, by omega⟩) (fun _ hno _ => hno hvl) (fun _ _ hno _ => by omega)
      rw [pe] at C1 ⊢
      refine jn_in (fun K135 hK135 => ?_)
      have ai : ∀ r, x + 113 ≤ r → haI g1 r = haI h r := fun r hr => (G1.2.2.2 r (by omega)).2.2.2.1
      have go2 : K135 (x + 113 + w) g1 := by
        rw [hK135]
        simp only
        refine l_change (c := cOf D (w : Int)) hw ⟨by rw [G1.1]; exact T.1, fun i hi => by rw [ai _ (by omega)]; exact T.2 i hi⟩ (by rw [G1.1]; exact kd) (by rw [G1.2.1]; omega) (by rw [ai _ (by omega)]; exact dv) n8 hp (by omega) (fun g2 F2 T2 dv2 dj ot => ?_)
        refine jn_in (fun K148 hK148 => ?_)
        refine ⟨fun hne => absurd rfl hne, fun _ => ?_⟩
        rw [hK148]
        have C2 := C1.out F2 (Nat.le_refl _)
        have gd := C2.2.2.2.1
        refine ⟨.inr rfl, q g2 _ ((G1.wide (Nat.le_refl _) (by omega)).trans (F2.ga (by omega) (by omega))) C2 ?_ rfl⟩
        show LK3 g2 (x + 113) (dTxt D (w : Int) (un (cOf D (w : Int)) p v))
        have gd : GD (dTxt D (w : Int) (un (cOf D (w : Int)) p v)) := gd
        rw [dTxt_3] at gd ⊢
        have gcn : GC (un (cOf D (w : Int)) p v) := by
          unfold dT3 at gd
          by_cases e : w = 0
          · rw [if_pos e] at gd; exact gd.1
          · rw [if_neg e] at gd; exact gd.2.1
        have nn : Nc (un (cOf D (w : Int)) p v) ≤ 8 := by
          have := cn_un (c := cOf D (w : Int)) (v := v) (show p < 80 by omega)
          show cn _ 80 ≤ 8
          have n8' : cn (cOf D (w : Int)) 80 ≤ 8 := n8
          rcases hv with h | ⟨h1, h2, h3⟩
          · rw [if_pos h] at this; omega
          · have h3' : cn (cOf D (w : Int)) 80 ≤ 7 := h3
            rw [if_neg (show ¬ v = 32 by omega)] at this; omega
        exact LK.put hw K (fun r _ _ => by rw [F2.kd, G1.1]) (by rw [F2.lo, G1.2.1]) T2 dv2 (fun j hj => by rw [dj j hj, ai _ (by omega)]) (fun r h1 _ h2 h3 => by rw [ot r h2 h3, ai r h1]) nn gcn
      refine ⟨fun hne => ?_, fun he => ?_⟩
      · have : w = 1 := by omega
        subst this
        exact go2
      · have : w = 0 := by omega
        subst this
        exact go2
    refine jn_in (fun K82 hK82 => ?_)
    have k82 : K82 h := by rw [hK82]; exact go 32 (.inl rfl)
    rw [okI_of kd, dv]
    refine ⟨fun _ => k82, fun _ => ⟨⟨by omega, by omega⟩, fun hne => ⟨⟨by omega, by omega⟩, l_at (by omega) (fun e e0 e1 => ⟨by unfold inR; omega, go _ (.inr ⟨by omega, by omega, by omega⟩)⟩)⟩, fun _ => k82⟩⟩
  · -- a text as it is written
    refine ⟨⟨by omega, by omega⟩, ⟨by omega, by omega⟩, ?_⟩
    refine jn_in (fun K24 hK24 => ?_)
    have go : ∀ w : Nat, w < 2 → ac % 2 = (w : Int) → K24 (x + 113 + w) h := by
      intro w hw he
      rw [hK24, he]
      exact l_load C K hw (fun h' D' G' C' K' n' => ⟨.inr rfl, q h' D' G' C' K' n'⟩)
    refine ⟨fun hne => go 1 (by omega) (by omega), fun he => go 0 (by omega) he⟩
