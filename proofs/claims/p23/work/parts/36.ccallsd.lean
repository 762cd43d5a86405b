/-! THE PURE LAYER, 20: the class's calls, four -/
def cOf (D : DT) (t : Int) : Nat → Int := if t = 0 then D.1.1 else D.1.2.1
def dTxt (D : DT) (t : Int) (c : Nat → Int) : D3 := if t = 0 then (c, D.1.2.1, D.1.2.2) else (D.1.1, c, D.1.2.2)
/-- the text t of the state: where it is -/
theorem m_text {zz : Nat → Nat} {s t0 t1 : Nat} {t : Int} {h : AH} {Q : Nat → AH → Prop} (S : SK h s t0 t1) (ht : t = 0 ∨ t = 1) (q : Q (if t = 0 then t0 else t1) h) : w_X4_text zz s t h Q := by
  rcases ht with rfl | rfl
  · rw [txt0]; exact ⟨by rw [okA_of S.1], t0, S.2.2.2.1, q⟩
  · rw [txt1]; exact ⟨by rw [okA_of S.1], t1, S.2.2.2.2.1, q⟩
theorem St.tx {h : AH} {s t0 t1 : Nat} {D : DT} {t : Int} (S : St h s t0 t1 D.1.1 D.1.2.1 D.1.2.2) : Tx h (if t = 0 then t0 else t1) (cOf D t) := by
  unfold cOf; split
  · exact S.2.1
  · exact S.2.2.1
theorem GD.tx {D : DT} {t : Int} (G : GD D.1) : GC (cOf D t) := by
  unfold cOf; split
  · exact G.1
  · exact G.2.1
theorem GD.put {D : DT} {t : Int} {c : Nat → Int} (G : GD D.1) (Gc : GC c) : GD (dTxt D t c) := by
  unfold dTxt; split
  · exact ⟨Gc, G.2.1, G.2.2⟩
  · exact ⟨G.1, Gc, G.2.2⟩
theorem St.put {h h' : AH} {s t0 t1 : Nat} {D : DT} {t : Int} {c : Nat → Int} (S : St h s t0 t1 D.1.1 D.1.2.1 D.1.2.2) (F : Fr h h' (if t = 0 then t0 else t1) ((if t = 0 then t0 else t1) + 3)) (U : Tx h' (if t = 0 then t0 else t1) c) : St h' s t0 t1 (dTxt D t c).1 (dTxt D t c).2.1 (dTxt D t c).2.2 := by
  have hp := S.1.2.2.2.2.2.2
  unfold dTxt
  by_cases e : t = 0
  · rw [if_pos e] at F U ⊢
    exact ⟨S.1.fr F, U, S.2.2.1.fr F (by omega), fun k hk => by rw [F.ai (by omega)]; exact S.2.2.2 k hk⟩
  · rw [if_neg e] at F U ⊢
    exact ⟨S.1.fr F, S.2.1.fr F (by omega), U, fun k hk => by rw [F.ai (by omega)]; exact S.2.2.2 k hk⟩
def dPut (D : DT) (t : Int) (p : Nat) (v : Int) : DT := (dTxt D t (un (cOf D t) p v), (dsv D).2)
theorem cOf_dsv {D : DT} {t : Int} : cOf (dsv D) t = cOf D t := by unfold cOf; rw [dsv_1]
theorem dTxt_dsv {D : DT} {t : Int} {c : Nat → Int} : dTxt (dsv D) t c = dTxt D t c := by unfold dTxt; rw [dsv_1]
theorem GC_un {c : Nat → Int} {p : Nat} {v : Int} (G : GC c) (hp : p < 80) (hv : v = 32 ∨ 97 ≤ v ∧ v ≤ 122) (hr : ¬ (v ≠ 32 ∧ c p = 32 ∧ ¬ Nc c < 40)) : GC (un c p v) := by
  refine ⟨fun k hk => ?_, ?_⟩
  · by_cases e : k = p
    · rw [e, un_s]; exact hv
    · rw [un_n e]; exact G.1 k hk
  · have h1 := cn_un (c := c) (v := v) hp
    have h2 : cn c 80 ≤ 40 := G.2
    have h3 : ¬ (v ≠ 32 ∧ c p = 32 ∧ ¬ cn c 80 < 40) := hr
    by_cases e1 : c p = 32
    · by_cases e2 : v = 32
      · rw [if_pos e1, if_pos e2] at h1; omega
      · rw [if_pos e1, if_neg e2] at h1
        have : cn c 80 < 40 := Classical.not_not.mp (fun h => h3 ⟨e2, e1, h⟩)
        omega
    · by_cases e2 : v = 32
      · rw [if_neg e1, if_pos e2] at h1; omega
      · rw [if_neg e1, if_neg e2] at h1; omega
theorem c_put {zz : Nat → Nat} {x : Nat} {t r c v : Int} {h : AH} {Q : Int → AH → Prop} {X : String → AH → Prop} {D : DT} (C : CR h zz x D)
    (q : (t = 0 ∨ t = 1) → ((0 ≤ r ∧ r < 5) ∧ 0 ≤ c ∧ c < 16) → (isL v = true ∨ v = 32) → ¬ (v ≠ 32 ∧ cOf D t (16 * r + c).toNat = 32 ∧ ¬ Nc (cOf D t) < 40) → ∀ h' : AH, Ga h h' x (x + 113) → CR h' zz x (dPut D t (16 * r + c).toNat v) → Q (cOf D t (16 * r + c).toNat) h')
    (q1 : ¬ ((t = 0 ∨ t = 1) ∧ (0 ≤ r ∧ r < 5) ∧ 0 ≤ c ∧ c < 16) → ∀ k : Nat, X "java/lang/IndexOutOfBoundsException" (nGb h k))
    (q2 : ((t = 0 ∨ t = 1) ∧ (0 ≤ r ∧ r < 5) ∧ 0 ≤ c ∧ c < 16) → ¬ (isL v = true ∨ v = 32) → ∀ k : Nat, X "java/lang/IllegalArgumentException" (nGb h k))
    (q3 : ((t = 0 ∨ t = 1) ∧ (0 ≤ r ∧ r < 5) ∧ 0 ≤ c ∧ c < 16) → (isL v = true ∨ v = 32) → (v ≠ 32 ∧ cOf D t (16 * r + c).toNat = 32 ∧ ¬ Nc (cOf D t) < 40) → ∀ k : Nat, X "java/lang/IllegalStateException" (nGb h k)) : w_X6_put zz x t r c v h Q X := by
  have C0 := C
  obtain ⟨T, Z, ⟨t0, t1, S⟩, G, B, n1, n2, ⟨pm, V⟩, W⟩ := C
  unfold w_X6_put
  refine m_isText ?_
  rw [jn_def]
  by_cases ht : t = 0 ∨ t = 1
  · rw [if_pos ht]
    refine ⟨fun h => absurd h (by omega), fun _ => m_isCell ?_⟩
    by_cases hc : (0 ≤ r ∧ r < 5) ∧ 0 ≤ c ∧ c < 16
    · rw [if_pos hc]
      refine ⟨fun _ => m_isLetter ?_, fun h => absurd h (by omega)⟩
      obtain ⟨p, hp⟩ : ∃ p : Nat, p = (16 * r + c).toNat := ⟨_, rfl⟩
      have hp2 : 16 * r + c = (p : Int) := by omega
      have hp8 : p < 80 := by omega
      rw [← hp] at q q3
      have U := S.tx (t := t)
      have Gc := G.tx (t := t)
      have go : (isL v = true ∨ v = 32) → inR ((16 : Int) * r) ∧ inR (((16 : Int) * r) + c) ∧ ∀ x5_56 : Int, x5_56 = (((16 : Int) * r) + c) → okA h x 6 ∧ ∃ b59 : Nat, hfR h x 0 = some b59 ∧ okA h b59 4 ∧ w_X4_text zz b59 t h (fun (r63 : Nat) (h63 : AH) => okA h63 r63 5 ∧ ∃ b66 : Nat, hfR h63 r63 0 = some b66 ∧ okI h63 b66 x5_56 ∧ ∀ x6_72 : Int, x6_72 = (haI h63 b66 x5_56) → jn (fun  (h_114 : AH) => okA h_114 x 6 ∧ w_X6_save zz x h_114 (fun  (h115 : AH) => okA h115 x 6 ∧ ∃ b119 : Nat, hfR h115 x 0 = some b119 ∧ okA h115 b119 4 ∧ w_X4_text zz b119 t h115 (fun (r123 : Nat) (h123 : AH) => okA h123 r123 5 ∧ w_X5_write zz r123 x5_56 v h123 (fun  (h130 : AH) => Q x6_72 h130)))) (fun k_114 : AH → Prop => ((v = (32 : Int)) → k_114  h63) ∧ ((¬ (v = (32 : Int))) → ((¬ x6_72 = (32 : Int)) → k_114  h63) ∧ ((x6_72 = (32 : Int)) → okA h63 x 6 ∧ ∃ b89 : Nat, hfR h63 x 0 = some b89 ∧ okA h63 b89 4 ∧ w_X4_text zz b89 t h63 (fun (r93 : Nat) (h93 : AH) => okA h93 r93 5 ∧ (((hfI h93 r93 2) < (40 : Int)) → k_114  h93) ∧ ((¬ ((hfI h93 r93 2) < (40 : Int))) → hn h ≤ hn h93 ∧ ∀ k : Nat, X "java/lang/IllegalStateException" (nGb h93 k))))))) := by
        intro hv
        refine ⟨by unfold inR; omega, by unfold inR; omega, ?_⟩
        intro y hy
        rw [hp2] at hy
        subst hy
        refine ⟨by rw [okA_of T.1], x + 1, T.2.1, by rw [okA_of S.1.1], m_text S.1 ht ?_⟩
        refine ⟨by rw [okA_of U.1.1], _, U.1.2.2.2.1, by rw [okI_of U.1.2.1]; omega, ?_⟩
        intro z hz
        rw [U.2.1 p hp8] at hz
        subst hz
        have walk : ¬ (v ≠ 32 ∧ cOf D t p = 32 ∧ ¬ Nc (cOf D t) < 40) → okA h x 6 ∧ w_X6_save zz x h (fun  (h115 : AH) => okA h115 x 6 ∧ ∃ b119 : Nat, hfR h115 x 0 = some b119 ∧ okA h115 b119 4 ∧ w_X4_text zz b119 t h115 (fun (r123 : Nat) (h123 : AH) => okA h123 r123 5 ∧ w_X5_write zz r123 (p : Int) v h123 (fun  (h130 : AH) => Q (cOf D t p) h130))) := by
          intro hno
          refine ⟨by rw [okA_of T.1], m_save C0 (fun g Gg Cg y7 _ => ?_)⟩
          have Cg0 := Cg
          obtain ⟨T', Z', ⟨u0, u1, S'⟩, G', -⟩ := Cg
          have U' := S'.tx (t := t)
          rw [cOf_dsv] at U'
          have hp' := S'.1.2.2.2.2.2.2
          refine ⟨by rw [okA_of T'.1], x + 1, T'.2.1, by rw [okA_of S'.1.1], m_text S'.1 ht ⟨by rw [okA_of U'.1.1], ?_⟩⟩
          have Gn : GC (un (cOf D t) p v) := GC_un Gc hp8 (by rcases hv with hv | hv; exact .inr (isL_i.mp hv); exact .inl hv) hno
          refine m_write (c' := un (cOf D t) p v) U' hp8 (fun j hj => rfl) Gn.2 (fun g2 F2 U2 => ?_)
          have hw : x + 1 ≤ (if t = 0 then u0 else u1) ∧ (if t = 0 then u0 else u1) + 3 ≤ x + 9 := by split <;> omega
          have SS := S'.put (t := t) F2 U2
          rw [dTxt_dsv] at SS
          exact q ht hc hv hno g2 (Gg.trans (F2.ga (by omega) (by omega))) (Cg0.put (d := dTxt D t (un (cOf D t) p v)) (F2.wide (by omega) (by omega)) y7 ⟨u0, u1, SS⟩ (G.put Gn))
        rw [jn_def]
        refine ⟨fun h32 => walk (fun h => h.1 h32), fun h32 => ⟨fun hb => walk (fun h => hb h.2.1), fun hb => ?_⟩⟩
        refine ⟨by rw [okA_of T.1], x + 1, T.2.1, by rw [okA_of S.1.1], m_text S.1 ht ?_⟩
        refine ⟨by rw [okA_of U.1.1], ?_⟩
        rw [U.2.2.1]
        refine ⟨fun hl => walk (fun h => h.2.2 (by omega)), fun hl => ⟨Nat.le_refl _, q3 ⟨ht, hc⟩ hv ⟨h32, hb, by omega⟩⟩⟩
      rw [jn_def]
      by_cases hl : isL v = true
      · rw [if_pos hl]
        exact ⟨fun _ => go (.inl hl), fun h => absurd h (by omega)⟩
      · rw [if_neg hl]
        refine ⟨fun h => absurd rfl h, fun _ => ⟨fun h32 => go (.inr h32), fun h32 => ⟨Nat.le_refl _, q2 ⟨ht, hc⟩ (fun h => ?_)⟩⟩⟩
        rcases h with h | h
        · exact hl h
        · exact h32 h
    · rw [if_neg hc]
      exact ⟨fun h => absurd rfl h, fun _ => ⟨Nat.le_refl _, q1 (fun h => hc h.2)⟩⟩
  · rw [if_neg ht]
    exact ⟨fun _ => ⟨Nat.le_refl _, q1 (fun h => ht h.1)⟩, fun h => absurd rfl h⟩
def dLoad (D : DT) (t : Int) : DT := (dTxt D t (rR D.2.2.2.1 D.2.2.2.2).2.2.2, (dsv D).2.1, (dsv D).2.2.1, D.2.2.2.1, 0)
theorem GC_R {buf : Nat → Int} {k : Nat} (h : ∀ j, j < k → rok (rR buf j) (buf j) = true) : GC (rR buf k).2.2.2 := by
  obtain ⟨w1, w2, w3, w4, w5, w6⟩ := rI_R k h
  exact ⟨fun q _ => w5 q, by omega⟩
theorem c_load {zz : Nat → Nat} {x : Nat} {t : Int} {h : AH} {Q : Int → AH → Prop} {X : String → AH → Prop} {D : DT} (C : CR h zz x D)
    (q : (t = 0 ∨ t = 1) → rE D.2.2.2.1 D.2.2.2.2 = D.2.2.2.2 → ∀ h' : AH, Ga h h' x (x + 113) → CR h' zz x (dLoad D t) → Q (Nc (rR D.2.2.2.1 D.2.2.2.2).2.2.2 : Int) h')
    (q1 : ¬ (t = 0 ∨ t = 1) → ∀ k : Nat, X "java/lang/IndexOutOfBoundsException" (nGb h k))
    (q2 : (t = 0 ∨ t = 1) → ¬ rE D.2.2.2.1 D.2.2.2.2 = D.2.2.2.2 → ∀ h' : AH, Ga h h' x (x + 113) → CR h' zz x D → X "java/lang/IllegalArgumentException" h') : w_X6_load zz x t h Q X := by
  have C0 := C
  obtain ⟨T, Z, ⟨t0, t1, S⟩, G, B, n1, n2, ⟨pm, V⟩, W⟩ := C
  unfold w_X6_load
  refine m_isText ?_
  by_cases ht : t = 0 ∨ t = 1
  · rw [if_pos ht]
    refine ⟨fun _ => ⟨by rw [okA_of T.1], x + 62, T.2.2.2.2.2.2.1, by rw [okA_of T.2.2.2.2.2.2.2.2.2.1.1], m_read T.2.2.2.2.2.2.2.2.2.1 B (fun g F1 D1 => ?_)⟩, fun h => absurd h (by omega)⟩
    have Cg := C0.fr F1 (by omega)
    have Bg := B.fr F1
    have y1 : hfI g (x + 62) 2 = (D.2.2.2.2 : Int) := by rw [F1.fi (by omega)]; exact B.1
    have hle := (rE_ok (buf := D.2.2.2.1) (len := D.2.2.2.2)).1
    refine ⟨by rw [okA_of Cg.1.1], x + 62, Cg.1.2.2.2.2.2.2.1, by rw [okA_of Cg.1.2.2.2.2.2.2.2.2.2.1.1], ?_⟩
    rw [y1]
    refine ⟨fun hge => ?_, fun hlt => ⟨by rw [F1.n]; exact Nat.le_refl _, fun k => q2 ht (by omega) _ ((F1.ga (by omega) (by omega)).trans Ga.gb) (show CR g zz x D from Cg)⟩⟩
    have he : rE D.2.2.2.1 D.2.2.2.2 = D.2.2.2.2 := by omega
    have hok := (rE_ok (buf := D.2.2.2.1) (len := D.2.2.2.2)).2
    rw [he] at D1 hok
    have Gn := GC_R hok
    refine ⟨by rw [okA_of Cg.1.1], m_save Cg (fun g2 G2 C2 y7 c64 => ?_)⟩
    have C20 := C2
    obtain ⟨T', Z', ⟨u0, u1, S'⟩, G', B', -⟩ := C2
    have U' := S'.tx (t := t)
    rw [cOf_dsv] at U'
    have hp' := S'.1.2.2.2.2.2.2
    have bk := T'.2.2.2.2.2.2.2.2.2.1
    refine ⟨by rw [okA_of T'.1], x + 1, T'.2.1, by rw [okA_of S'.1.1], m_text S'.1 ht ?_⟩
    refine ⟨by rw [okA_of T'.1], x + 62, T'.2.2.2.2.2.2.1, by rw [okA_of bk.1], x + 64, bk.2.2.2.2.1, by rw [okA_of U'.1.1], ?_⟩
    refine m_takeCodes (n := 80) (c := (rR D.2.2.2.1 D.2.2.2.2).2.2.2) U'.1 bk.2.2.1 (by omega) (fun k hk => by rw [c64]; exact D1 k hk) Gn.2 (fun g3 F3 U3 => ?_)
    have hw : x + 1 ≤ (if t = 0 then u0 else u1) ∧ (if t = 0 then u0 else u1) + 3 ≤ x + 9 := by split <;> omega
    have SS := S'.put (t := t) F3 U3
    rw [dTxt_dsv] at SS
    have C3 := C20.put (d := dTxt D t (rR D.2.2.2.1 D.2.2.2.2).2.2.2) (F3.wide (by omega) (by omega)) y7 ⟨u0, u1, SS⟩ (G.put Gn)
    have bk3 := C3.1.2.2.2.2.2.2.2.2.2.1
    refine ⟨by rw [okA_of C3.1.1], x + 62, C3.1.2.2.2.2.2.2.1, by rw [okP_of bk3.1]; exact ⟨rfl, bk3.2.2.2.2.2⟩, ?_⟩
    intro g4 e4
    have F4 : Fr g3 g4 (x + 62) (x + 65) := by rw [e4]; exact Fr.sf (by omega) (by omega)
    have C4 := C3.buf (buf := D.2.2.2.1) (len := 0) F4 ⟨by rw [e4, hfI_sfI, if_pos rfl, if_pos rfl]; rfl, by omega, fun k hk => by omega⟩
    have S4 : SK g4 (x + 1) u0 u1 := SS.1.fr F4
    have U4 : Tx g4 (if t = 0 then u0 else u1) (rR D.2.2.2.1 D.2.2.2.2).2.2.2 := U3.fr F4 (by omega)
    refine ⟨by rw [okA_of C4.1.1], x + 1, C4.1.2.1, by rw [okA_of S4.1], m_text S4 ht ⟨by rw [okA_of U4.1.1], ?_⟩⟩
    rw [U4.2.2.1]
    exact q ht he g4 ((F1.ga (by omega) (by omega)).trans (G2.trans ((F3.ga (by omega) (by omega)).trans (F4.ga (by omega) (by omega))))) C4
  · rw [if_neg ht]
    exact ⟨fun h => absurd rfl h, fun _ => ⟨Nat.le_refl _, q1 ht⟩⟩
