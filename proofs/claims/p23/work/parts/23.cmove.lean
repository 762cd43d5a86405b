/-! THE PURE LAYER, 7: the class's moving, at s + 21, of the state at s -/
def MvK (h : AH) (s : Nat) : Prop := hkd h (s + 21) = (6, 0) ∧ hkd h (s + 22) = (1, 40) ∧ hkd h (s + 23) = (1, 40) ∧ hkd h (s + 24) = (1, 40) ∧ hkd h (s + 25) = (1, 40) ∧ hkd h (s + 26) = (1, 40) ∧ hkd h (s + 27) = (1, 80) ∧ hkd h (s + 28) = (1, 191) ∧ hkd h (s + 29) = (1, 7640) ∧ hfR h (s + 21) 0 = some (s + 22) ∧ hfR h (s + 21) 1 = some (s + 23) ∧ hfR h (s + 21) 2 = some (s + 24) ∧ hfR h (s + 21) 5 = some s ∧ hfR h (s + 21) 6 = some (s + 14) ∧ hfR h (s + 21) 7 = some (s + 25) ∧ hfR h (s + 21) 8 = some (s + 26) ∧ hfR h (s + 21) 9 = some (s + 27) ∧ hfR h (s + 21) 10 = some (s + 28) ∧ hfR h (s + 21) 11 = some (s + 29)
theorem MvK.fr {h h' : AH} {a b s : Nat} (T : MvK h s) (F : Fr h h' a b) : MvK h' s := by
  unfold MvK at *; rw [F.kd, F.rf]; exact T
theorem m_next {zz : Nat → Nat} {s t0 t1 : Nat} {a g : Int} {h : AH} {Q : Int → AH → Prop} {c0 c1 st : Nat → Int} (S : St h s t0 t1 c0 c1 st) (M : MvK h s) (ha : 0 ≤ a ∧ a < 80) (hg : 0 ≤ g ∧ g < 80) (q : Q (nxc (st 4) a g) h) : w_X2_nextCell zz (s + 21) a g h Q := by
  obtain ⟨⟨a0, a1, a2, a3, a4, a5, a6⟩, ⟨⟨b0, b1, b2, b3, b4, b5⟩, b6, b7, b8⟩, ⟨⟨d0, d1, d2, d3, d4, d5⟩, d6, d7, d8⟩, a9⟩ := S
  obtain ⟨v0, v1, v2, v3, v4, v5, v6, v7, v8, w0, w1, w2, w3, w4, w5, w6, w7, w8, w9⟩ := M
  have z4 : haI h (s + 1) (4 : Int) = st 4 := a9 4 (by omega)
  have qq : ∀ v, v = nxc (st 4) a g → Q v h := fun v hv => by rw [hv]; exact q
  have f0 : ∀ x : Int, 0 ≤ ab1 x := fun x => by unfold ab1; split <;> omega
  have g1 := f0 (g % 16 - a % 16)
  have g2 := f0 (g / 16 - a / 16)
  have n0 : st 4 = 0 → nxc (st 4) a g = if 0 < ab1 (g % 16 - a % 16) then (if 0 < g % 16 - a % 16 then a + 1 else a - 1) else (if 0 < g / 16 - a / 16 then a + 16 else a - 16) := fun e => by unfold nxc; simp [e]
  have n1 : st 4 = 1 → nxc (st 4) a g = if ab1 (g / 16 - a / 16) = 0 then (if 0 < g % 16 - a % 16 then a + 1 else a - 1) else (if 0 < g / 16 - a / 16 then a + 16 else a - 16) := fun e => by unfold nxc; simp [e]
  have n2 : ¬ st 4 = 0 ∧ ¬ st 4 = 1 → nxc (st 4) a g = if ab1 (g / 16 - a / 16) ≤ ab1 (g % 16 - a % 16) then (if 0 < g % 16 - a % 16 then a + 1 else a - 1) else (if 0 < g / 16 - a / 16 then a + 16 else a - 16) := fun e => by unfold nxc; simp [e.1, e.2]
  unfold w_X2_nextCell w_X2_goesAlongRow
  simp only [hkd_sfI, hkd_sfR, hkd_sfL, hkd_saI, hkd_saR, hkd_saL, hkd_nGb, hlo_sfI, hlo_sfR, hlo_sfL, hlo_saI, hlo_saR, hlo_saL, hlo_nGb, hfR_sfI, hfR_sfL, hfR_saI, hfR_saR, hfR_saL, hfR_nGb, hfI_sfR, hfI_sfL, hfI_saI, hfI_saR, hfI_saL, hfI_nGb, haI_sfI, haI_sfR, haI_sfL, haI_saR, haI_saL, haI_nGb, haR_sfI, haR_sfR, haR_saI, haR_nGb, haL_sfI, haL_saI, hfL_sfI, hfL_saI, hfI_sfI, hfR_sfR, hfL_sfL, haI_saI, haR_saR, haL_saL, okA, okP, okI, okW, okJ, okV, okQ, okU, okC, jn_def, pair_ex, some_ex, forall_eq, a0, a1, a2, a3, a4, b0, b1, b2, b3, b4, b7, d0, d1, d2, d3, d4, d7, v0, v1, v2, v3, v4, v5, v6, v7, v8, w0, w1, w2, w3, w4, w5, w6, w7, w8, w9, Nat.add_left_cancel_iff, Nat.reduceEqDiff, Nat.add_eq_left, Nat.left_eq_add, if_true, if_false, Nat.reduceAdd, true_and, and_true, Nat.one_ne_zero, Nat.succ_ne_self, inR, ab1_fold, z4, and_assoc]
  repeat' (first | apply And.intro | intro _)
  all_goals first | exact Or.inr trivial | exact Or.inl trivial | exact absurd trivial ‹¬True› | omega | (apply qq; (first | rw [n0 (by omega)] | rw [n1 (by omega)] | rw [n2 (by omega)]); first | rw [if_pos (by omega), if_pos (by omega)] | rw [if_pos (by omega), if_neg (by omega)] | rw [if_neg (by omega), if_pos (by omega)] | rw [if_neg (by omega), if_neg (by omega)])
theorem u1_un {f : Nat → Int} {k j : Nat} {v : Int} : (if (j : Int) = (k : Int) then v else f j) = un f k v j := by
  by_cases e : j = k
  · subst e; rw [if_pos rfl, un_s]
  · rw [if_neg (by omega), un_n e]
/-- what the arrays hold while the pieces go: z; t is the frame that is being made, T how many were held in those ahead of it, hp in each -/
def MV (h : AH) (s n : Nat) (gl : Nat → Int) (z : MT) : Prop := (∀ k : Nat, k < n → haI h (s + 22) k = gl k ∧ haI h (s + 25) k = z.1 k ∧ haI h (s + 26) k = z.2.1 k ∧ haI h (s + 23) k = z.2.2.1 k ∧ haI h (s + 24) k = z.2.2.2.1 k) ∧ (∀ q : Int, 0 ≤ q → q < 80 → haI h (s + 27) q = (cT gl z.1 n q : Int)) ∧ hfI h (s + 21) 12 = (cG gl z.1 n : Int)
def MH (h : AH) (s : Nat) (t : Nat) (c T : Nat) (hp : Nat → Nat) : Prop := hfI h (s + 21) 4 = (T : Int) + (c : Int) ∧ (∀ u : Nat, u ≤ 190 → (haI h (s + 28) u = if u = t then (c : Int) else (hp u : Int))) ∧ hfI h (s + 21) 3 = (t : Int)
set_option maxHeartbeats 8000000 in
theorem m_moh {zz : Nat → Nat} {s t0 t1 n k t T : Nat} {gl : Nat → Int} {hp : Nat → Nat} {z : MT} {h : AH} {Q : AH → Prop} {c0 c1 st : Nat → Int} (S : St h s t0 t1 c0 c1 st) (M : MvK h s) (hn : n ≤ 40) (hk : k < n) (ht : 1 ≤ t ∧ t ≤ 190) (hT : T ≤ 10000) (V : MV h s n gl z) (H : MH h s t z.2.2.2.2 T hp) (hg : 0 ≤ gl k ∧ gl k < 80) (hz : (0 ≤ z.1 k ∧ z.1 k < 80) ∧ (0 ≤ z.2.1 k ∧ z.2.1 k ≤ 9) ∧ (0 ≤ z.2.2.1 k ∧ z.2.2.1 k ≤ 190)) (hc : z.2.2.2.2 ≤ 40) (hgo : z.1 k ≠ gl k) (q : ∀ h' : AH, Fr h h' (s + 21) (s + 29) → MV h' s n gl (mst n gl (st 4) (st 5) t z k) → MH h' s t (mst n gl (st 4) (st 5) t z k).2.2.2.2 T hp → Q h') : w_X2_moveOrHold zz (s + 21) k t h Q := by
  have S0 := S
  have M0 := M
  have lo := S.1.2.2.2.2.2.1
  obtain ⟨⟨a0, a1, a2, a3, a4, a5, a6⟩, ⟨⟨b0, b1, b2, b3, b4, b5⟩, b6, b7, b8⟩, ⟨⟨d0, d1, d2, d3, d4, d5⟩, d6, d7, d8⟩, a9⟩ := S
  obtain ⟨v0, v1, v2, v3, v4, v5, v6, v7, v8, w0, w1, w2, w3, w4, w5, w6, w7, w8, w9⟩ := M
  have z5 : haI h (s + 1) (5 : Int) = st 5 := a9 5 (by omega)
  obtain ⟨V1, V2, V3⟩ := V
  obtain ⟨H1, H2, H4⟩ := H
  obtain ⟨x1, x2, x3, x4, x5⟩ := V1 k hk
  have nx := nxc_ok (w := st 4) hz.1 hg hgo
  have T1 := V2 _ nx.1 nx.2.1
  have T2 := V2 _ hz.1.1 hz.1.2
  have T3 := cT_le (gl := gl) (c := z.1) (n := n) (q := z.1 k)
  have T4 := cT_le (gl := gl) (c := z.1) (n := n) (q := nxc (st 4) (z.1 k) (gl k))
  have T5 : 0 < cT gl z.1 n (z.1 k) := cT_pos.mpr ⟨k, hk, by omega, rfl⟩
  have T6 : 0 < cG gl z.1 n := cG_pos.mpr ⟨k, hk, by omega, hgo⟩
  have T7 := cG_le (gl := gl) (c := z.1) (n := n)
  have H3 := H2 t ht.2
  rw [if_pos rfl] at H3
  have hgk : gl k ≠ -1 := by omega
  unfold w_X2_moveOrHold
  simp only [okA, okI, pair_ex, some_ex, jn_def, v0, v1, v2, v3, v4, v5, v6, v7, v8, w0, w1, w2, w3, w4, w5, w6, w7, w8, w9, Nat.add_left_cancel_iff, Nat.reduceEqDiff, Nat.add_eq_left, Nat.left_eq_add, if_true, if_false, Nat.reduceAdd, true_and, and_true, Nat.one_ne_zero, Nat.succ_ne_self, x1, x2]
  refine ⟨⟨by omega, by omega⟩, ⟨by omega, by omega⟩, m_next S0 M0 hz.1 hg ?_⟩
  obtain ⟨y, hy⟩ : ∃ y, y = nxc (st 4) (z.1 k) (gl k) := ⟨_, rfl⟩
  have mz : mst n gl (st 4) (st 5) t z k = if 0 < cT gl z.1 n y ∧ z.2.1 k < st 5 then (z.1, un z.2.1 k (z.2.1 k + 1), un z.2.2.1 k (z.2.2.1 k + 1), z.2.2.2.1, z.2.2.2.2 + 1) else (un z.1 k y, un z.2.1 k 0, z.2.2.1, (if y = gl k then un z.2.2.2.1 k t else z.2.2.2.1), z.2.2.2.2) := by
    unfold mst; rw [if_pos ⟨hgk, hgo⟩, hy]
  rw [← hy] at nx T1 T4 ⊢
  -- the piece goes on
  have goes : ¬ (0 < cT gl z.1 n y ∧ z.2.1 k < st 5) → ∀ h' : AH, Fr h h' (s + 21) (s + 29) → haI h' (s + 22) = haI h (s + 22) → haI h' (s + 23) = haI h (s + 23) → haI h' (s + 24) = (if y = gl k then u1 (haI h (s + 24)) k t else haI h (s + 24)) → haI h' (s + 25) = u1 (haI h (s + 25)) k y → haI h' (s + 26) = u1 (haI h (s + 26)) k 0 → haI h' (s + 27) = u1 (u1 (haI h (s + 27)) (z.1 k) ((cT gl z.1 n (z.1 k) : Int) - 1)) y ((cT gl z.1 n y : Int) + 1) → haI h' (s + 28) = haI h (s + 28) → hfI h' (s + 21) 3 = hfI h (s + 21) 3 → hfI h' (s + 21) 4 = hfI h (s + 21) 4 → hfI h' (s + 21) 12 = (if y = gl k then (cG gl z.1 n : Int) - 1 else (cG gl z.1 n : Int)) → Q h' := by
    intro hno h' F e22 e23 e24 e25 e26 e27 e28 f3 f4 f12
    rw [if_neg hno] at mz
    refine q h' F ?_ ?_
    · rw [mz]
      refine ⟨fun j hj => ?_, fun r hr1 hr2 => ?_, ?_⟩
      · obtain ⟨y1, y2, y3, y4, y5⟩ := V1 j hj
        rw [e22, e23, e24, e25, e26, y1, u1_apply, u1_apply, y2, y3, y4]
        refine ⟨rfl, u1_un, u1_un, rfl, ?_⟩
        · show _ = (if y = gl k then un z.2.2.2.1 k t else z.2.2.2.1) j
          by_cases e : y = gl k
          · rw [if_pos e, if_pos e, u1_apply, y5]; exact u1_un
          · rw [if_neg e, if_neg e, y5]
      · rw [e27, u1_apply, u1_apply, V2 r hr1 hr2]
        show _ = (cT gl (un z.1 k y) n r : Int)
        have c1 := cT_un (gl := gl) (c := z.1) (q := r) (v := y) hk hgk
        by_cases e1 : r = y
        · rw [if_pos e1]
          rw [if_neg (show ¬ (z.1 k = r) from by omega), if_pos e1.symm] at c1
          rw [e1] at c1 ⊢; omega
        · rw [if_neg e1]
          rw [if_neg (show ¬ (y = r) from fun e => e1 e.symm)] at c1
          by_cases e2 : r = z.1 k
          · rw [if_pos e2]
            rw [if_pos e2.symm] at c1
            rw [← e2]; omega
          · rw [if_neg e2]
            rw [if_neg (show ¬ (z.1 k = r) from fun e => e2 e.symm)] at c1
            omega
      · rw [f12]
        show _ = (cG gl (un z.1 k y) n : Int)
        have c1 := cG_un (gl := gl) (c := z.1) (v := y) hk hgk
        rw [if_neg hgo] at c1
        by_cases e : y = gl k
        · rw [if_pos e] at c1 ⊢; omega
        · rw [if_neg e] at c1 ⊢; omega
    · rw [mz]
      exact ⟨by rw [f4]; exact H1, fun u hu => by rw [e28]; exact H2 u hu, by rw [f3]; exact H4⟩
  have held : 0 < cT gl z.1 n y ∧ z.2.1 k < st 5 → ∀ h' : AH, Fr h h' (s + 21) (s + 29) → haI h' (s + 22) = haI h (s + 22) → haI h' (s + 23) = u1 (haI h (s + 23)) k (z.2.2.1 k + 1) → haI h' (s + 24) = haI h (s + 24) → haI h' (s + 25) = haI h (s + 25) → haI h' (s + 26) = u1 (haI h (s + 26)) k (z.2.1 k + 1) → haI h' (s + 27) = haI h (s + 27) → haI h' (s + 28) = u1 (haI h (s + 28)) t ((z.2.2.2.2 : Int) + 1) → hfI h' (s + 21) 3 = hfI h (s + 21) 3 → hfI h' (s + 21) 4 = (T : Int) + (z.2.2.2.2 : Int) + 1 → hfI h' (s + 21) 12 = hfI h (s + 21) 12 → Q h' := by
    intro hy h' F e22 e23 e24 e25 e26 e27 e28 f3 f4 f12
    rw [if_pos hy] at mz
    refine q h' F ?_ ?_
    · rw [mz]
      refine ⟨fun j hj => ?_, fun r hr1 hr2 => by rw [e27]; exact V2 r hr1 hr2, by rw [f12]; exact V3⟩
      obtain ⟨y1, y2, y3, y4, y5⟩ := V1 j hj
      rw [e22, e23, e24, e25, e26, y1, u1_apply, u1_apply, y2, y3, y4, y5]
      exact ⟨rfl, rfl, u1_un, u1_un, rfl⟩
    · rw [mz]
      refine ⟨by rw [f4]; show _ = (T : Int) + ((z.2.2.2.2 + 1 : Nat) : Int); omega, fun u hu => ?_, by rw [f3]; exact H4⟩
      rw [e28, u1_apply, H2 u hu]
      show _ = if u = t then ((z.2.2.2.2 + 1 : Nat) : Int) else _
      split <;> split <;> first | rfl | omega
  have hne : ¬ (y = z.1 k) := nx.2.2.2
  have k1 : (0 : Int) ≤ (k : Int) := by omega
  have k2 : (k : Int) < ((40 : Nat) : Int) := by omega
  have y1 : (0 : Int) ≤ y := nx.1
  have y2 : y < ((80 : Nat) : Int) := nx.2.1
  have e1 : (0 : Int) ≤ z.1 k := hz.1.1
  have e2 : z.1 k < ((80 : Nat) : Int) := hz.1.2
  have g1 : (0 : Int) ≤ (t : Int) := by omega
  have g2 : (t : Int) < ((191 : Nat) : Int) := by omega
  have l0 : (0 : Int) ≤ 5 := by omega
  have l1 : (5 : Int) < ((8 : Nat) : Int) := by omega
  have h21 : ∀ d, hlo h ≤ s + d := fun d => by omega
  have r1 : inR (z.2.1 k + 1) := by unfold inR; omega
  have r2 : inR (z.2.2.1 k + 1) := by unfold inR; omega
  have r3 : inR ((z.2.2.2.2 : Int) + 1) := by unfold inR; omega
  have r4 : inR ((T : Int) + (z.2.2.2.2 : Int) + 1) := by unfold inR; omega
  have r5 : inR ((cT gl z.1 n (z.1 k) : Int) - 1) := by unfold inR; omega
  have r6 : inR ((cT gl z.1 n y : Int) + 1) := by unfold inR; omega
  have r7 : inR ((cG gl z.1 n : Int) - 1) := by unfold inR; omega
  simp only [hkd_sfI, hkd_sfR, hkd_sfL, hkd_saI, hkd_saR, hkd_saL, hkd_nGb, hlo_sfI, hlo_sfR, hlo_sfL, hlo_saI, hlo_saR, hlo_saL, hlo_nGb, hfR_sfI, hfR_sfL, hfR_saI, hfR_saR, hfR_saL, hfR_nGb, hfI_sfR, hfI_sfL, hfI_saI, hfI_saR, hfI_saL, hfI_nGb, haI_sfI, haI_sfR, haI_sfL, haI_saR, haI_saL, haI_nGb, haR_sfI, haR_sfR, haR_saI, haR_nGb, haL_sfI, haL_saI, hfL_sfI, hfL_saI, hfI_sfI, hfR_sfR, hfL_sfL, haI_saI, haR_saR, haL_saL, okA, okP, okI, okW, okJ, okV, okQ, okU, okC, jn_def, pair_ex, some_ex, forall_eq, a0, a1, a2, a3, a4, b0, b1, b2, b3, b4, b7, d0, d1, d2, d3, d4, d7, v0, v1, v2, v3, v4, v5, v6, v7, v8, w0, w1, w2, w3, w4, w5, w6, w7, w8, w9, Nat.add_left_cancel_iff, Nat.reduceEqDiff, Nat.add_eq_left, Nat.left_eq_add, if_true, if_false, Nat.reduceAdd, true_and, and_true, Nat.one_ne_zero, Nat.succ_ne_self, u1_apply, x1, x2, x3, x4, x5, z5, T1, T2, V3, H1, H3, hne, k1, k2, y1, y2, e1, e2, g1, g2, l0, l1, h21, r1, r2, r3, r4, r5, r6, r7]
  clear a0 a1 a2 a3 a4 b0 b1 b2 b3 b4 d0 d1 d2 d3 d4 v0 v1 v2 v3 v4 v5 v6 v7 v8 w0 w1 w2 w3 w4 w5 w6 w7 w8 w9 S0 M0 b6 b7 b8 d6 d7 d8 a9 q V1 V2 H2 mz
  have walk : ¬ (0 < cT gl z.1 n y ∧ z.2.1 k < st 5) → ∀ E1 E2 : AH, (E1 = saI (saI (saI h (s + 26) (u1 (haI h (s + 26)) k 0)) (s + 27) (u1 (u1 (haI h (s + 27)) (z.1 k) ((cT gl z.1 n (z.1 k) : Int) - 1)) y ((cT gl z.1 n y : Int) + 1))) (s + 25) (u1 (haI h (s + 25)) k y)) → (E2 = sfI (saI E1 (s + 24) (u1 (haI h (s + 24)) k t)) (s + 21) 12 ((cG gl z.1 n : Int) - 1)) → (¬ y = gl k → Q E1) ∧ (y = gl k → Q E2) := by
    intro hno E1 E2 q1 q2
    subst q1; subst q2
    refine ⟨fun hne => ?_, fun heq => ?_⟩
    · refine goes hno _ ?_ ?_ ?_ ?_ ?_ ?_ ?_ ?_ ?_ ?_ ?_
      · (repeat (first | refine Fr.tsa ?_ (by omega) (by omega) | refine Fr.tsf ?_ (by omega) (by omega))); exact Fr.refl _ _ _
      all_goals simp only [hkd_sfI, hkd_sfR, hkd_sfL, hkd_saI, hkd_saR, hkd_saL, hkd_nGb, hlo_sfI, hlo_sfR, hlo_sfL, hlo_saI, hlo_saR, hlo_saL, hlo_nGb, hfR_sfI, hfR_sfL, hfR_saI, hfR_saR, hfR_saL, hfR_nGb, hfI_sfR, hfI_sfL, hfI_saI, hfI_saR, hfI_saL, hfI_nGb, haI_sfI, haI_sfR, haI_sfL, haI_saR, haI_saL, haI_nGb, haR_sfI, haR_sfR, haR_saI, haR_nGb, haL_sfI, haL_saI, hfL_sfI, hfL_saI, hfI_sfI, hfR_sfR, hfL_sfL, haI_saI, haR_saR, haL_saL, Nat.add_left_cancel_iff, Nat.reduceEqDiff, Nat.add_eq_left, Nat.left_eq_add, if_true, if_false, Nat.reduceAdd, true_and, and_true, Nat.one_ne_zero, Nat.succ_ne_self, hne, V3]
    · refine goes hno _ ?_ ?_ ?_ ?_ ?_ ?_ ?_ ?_ ?_ ?_ ?_
      · (repeat (first | refine Fr.tsa ?_ (by omega) (by omega) | refine Fr.tsf ?_ (by omega) (by omega))); exact Fr.refl _ _ _
      all_goals simp only [hkd_sfI, hkd_sfR, hkd_sfL, hkd_saI, hkd_saR, hkd_saL, hkd_nGb, hlo_sfI, hlo_sfR, hlo_sfL, hlo_saI, hlo_saR, hlo_saL, hlo_nGb, hfR_sfI, hfR_sfL, hfR_saI, hfR_saR, hfR_saL, hfR_nGb, hfI_sfR, hfI_sfL, hfI_saI, hfI_saR, hfI_saL, hfI_nGb, haI_sfI, haI_sfR, haI_sfL, haI_saR, haI_saL, haI_nGb, haR_sfI, haR_sfR, haR_saI, haR_nGb, haL_sfI, haL_saI, hfL_sfI, hfL_saI, hfI_sfI, hfR_sfR, hfL_sfL, haI_saI, haR_saR, haL_saL, Nat.add_left_cancel_iff, Nat.reduceEqDiff, Nat.add_eq_left, Nat.left_eq_add, if_true, if_false, Nat.reduceAdd, true_and, and_true, Nat.one_ne_zero, Nat.succ_ne_self, heq, V3]
  refine ⟨fun hc => ?_, fun hc => ⟨fun hc2 => ?_, fun hc2 => ?_⟩⟩
  · exact walk (by omega) _ _ (by simp only [saI_saI]) (by simp only [saI_saI, sfI_saI])
  · exact walk (by omega) _ _ (by simp only [saI_saI]) (by simp only [saI_saI, sfI_saI])
  · refine held ⟨by omega, by omega⟩ _ ?_ ?_ ?_ ?_ ?_ ?_ ?_ ?_ ?_ ?_ ?_
    · (repeat (first | refine Fr.tsa ?_ (by omega) (by omega) | refine Fr.tsf ?_ (by omega) (by omega))); exact Fr.refl _ _ _
    all_goals simp only [hkd_sfI, hkd_sfR, hkd_sfL, hkd_saI, hkd_saR, hkd_saL, hkd_nGb, hlo_sfI, hlo_sfR, hlo_sfL, hlo_saI, hlo_saR, hlo_saL, hlo_nGb, hfR_sfI, hfR_sfL, hfR_saI, hfR_saR, hfR_saL, hfR_nGb, hfI_sfR, hfI_sfL, hfI_saI, hfI_saR, hfI_saL, hfI_nGb, haI_sfI, haI_sfR, haI_sfL, haI_saR, haI_saL, haI_nGb, haR_sfI, haR_sfR, haR_saI, haR_nGb, haL_sfI, haL_saI, hfL_sfI, hfL_saI, hfI_sfI, hfR_sfR, hfL_sfL, haI_saI, haR_saR, haL_saL, Nat.add_left_cancel_iff, Nat.reduceEqDiff, Nat.add_eq_left, Nat.left_eq_add, if_true, if_false, Nat.reduceAdd, true_and, and_true, Nat.one_ne_zero, Nat.succ_ne_self, saI_saI]
