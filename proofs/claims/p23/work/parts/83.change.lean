/-! SECOND LAW, 14: a letter comes or goes -/
section LCU
variable {c : Nat → Int} {p i q : Nat} {v : Int}
theorem Lc_of (hq : q < 80) (hc : c q ≠ 32) : cn c q < Nc c ∧ Lc c (cn c q) = q := by
  have := cn_mono (c := c) (show q + 1 ≤ 80 by omega)
  rw [cn_s, if_neg hc] at this
  exact ⟨by show cn c q < cn c 80; omega, cp_of hq hc⟩
theorem Lc_is (hq : q < 80) (hc : c q ≠ 32) (h : cn c q = i) : Lc c i = q := by rw [← h]; exact (Lc_of hq hc).2
theorem Lc_lt_k (hi : i < Nc c) : Lc c i < p ↔ i < cn c p := by
  have h1 := Lc_cn hi
  have h2 := Lc_nb hi
  have h3 := cn_s (c := c) (k := Lc c i)
  rw [if_neg h2] at h3
  constructor
  · intro h
    have := cn_mono (c := c) (show Lc c i + 1 ≤ p by omega)
    omega
  · intro h
    by_cases e : Lc c i < p
    · exact e
    · have := cn_mono (c := c) (show p ≤ Lc c i by omega)
      omega
theorem cn_un_lo (h : q ≤ p) : cn (un c p v) q = cn c q := cn_ext (fun k hk => un_n (by omega))
/-- another letter in its place -/
theorem Lc_rep (hp : p < 80) (hc : c p ≠ 32) (hv : v ≠ 32) : Nc (un c p v) = Nc c ∧ ∀ i, i < Nc c → Lc (un c p v) i = Lc c i := by
  have h0 := cn_un (c := c) (v := v) (show p < 80 by omega)
  rw [if_neg hc, if_neg hv] at h0
  refine ⟨by show cn _ 80 = cn _ 80; omega, fun i hi => ?_⟩
  have l := Lc_lt hi
  refine Lc_is l ?_ ?_
  · by_cases e : Lc c i = p
    · rw [e, un_s]; exact hv
    · rw [un_n e]; exact Lc_nb hi
  · by_cases e : Lc c i ≤ p
    · rw [cn_un_lo e]; exact Lc_cn hi
    · have h1 := cn_un (c := c) (v := v) (show p < Lc c i by omega)
      rw [if_neg hc, if_neg hv] at h1
      have := Lc_cn hi
      omega
/-- a new letter -/
theorem Lc_ins (hp : p < 80) (hc : c p = 32) (hv : v ≠ 32) : Nc (un c p v) = Nc c + 1 ∧ Lc (un c p v) (cn c p) = p ∧ (∀ i, i < cn c p → Lc (un c p v) i = Lc c i ∧ Lc c i < p) ∧ ∀ i, cn c p ≤ i → i < Nc c → Lc (un c p v) (i + 1) = Lc c i ∧ p < Lc c i := by
  have h0 := cn_un (c := c) (v := v) (show p < 80 by omega)
  rw [if_pos hc, if_neg hv] at h0
  have hm := cn_mono (c := c) (show p ≤ 80 by omega)
  refine ⟨by show cn _ 80 = cn _ 80 + 1; omega, Lc_is hp (by rw [un_s]; exact hv) (cn_un_lo (Nat.le_refl _)), fun i hi => ?_, fun i h1 h2 => ?_⟩
  · have hi' : i < Nc c := by show i < cn c 80; omega
    have l := (Lc_lt_k (p := p) hi').mpr hi
    exact ⟨Lc_is (by omega) (by rw [un_n (by omega)]; exact Lc_nb hi') (by rw [cn_un_lo (by omega)]; exact Lc_cn hi'), l⟩
  · have l : ¬ Lc c i < p := fun h => by have := (Lc_lt_k h2).mp h; omega
    have ne : Lc c i ≠ p := fun h => Lc_nb h2 (by rw [h]; exact hc)
    have l8 := Lc_lt h2
    refine ⟨Lc_is l8 (by rw [un_n ne]; exact Lc_nb h2) ?_, by omega⟩
    have h3 := cn_un (c := c) (v := v) (show p < Lc c i by omega)
    rw [if_pos hc, if_neg hv] at h3
    have := Lc_cn h2
    omega
/-- a letter goes -/
theorem Lc_del (hp : p < 80) (hc : c p ≠ 32) : Nc (un c p 32) + 1 = Nc c ∧ (∀ i, i < cn c p → Lc (un c p 32) i = Lc c i ∧ Lc c i < p) ∧ ∀ i, cn c p ≤ i → i + 1 < Nc c → Lc (un c p 32) i = Lc c (i + 1) ∧ p < Lc c (i + 1) := by
  have h0 := cn_un (c := c) (v := 32) (show p < 80 by omega)
  rw [if_neg hc, if_pos rfl] at h0
  have hm := Lc_of hp hc
  refine ⟨by show cn _ 80 + 1 = cn _ 80; omega, fun i hi => ?_, fun i h1 h2 => ?_⟩
  · have hi' : i < Nc c := by omega
    have l := (Lc_lt_k (p := p) hi').mpr hi
    exact ⟨Lc_is (by omega) (by rw [un_n (by omega)]; exact Lc_nb hi') (by rw [cn_un_lo (by omega)]; exact Lc_cn hi'), l⟩
  · have l : ¬ Lc c (i + 1) < p := fun h => by have := (Lc_lt_k h2).mp h; omega
    have ne : Lc c (i + 1) ≠ p := fun h => by
      have := Lc_cn h2
      rw [h] at this; omega
    have l8 := Lc_lt h2
    refine ⟨Lc_is l8 (by rw [un_n ne]; exact Lc_nb h2) ?_, by omega⟩
    have h3 := cn_un (c := c) (v := 32) (show p < Lc c (i + 1) by omega)
    rw [if_neg hc, if_pos rfl] at h3
    have := Lc_cn h2
    omega
end LCU
set_option maxHeartbeats 2000000 in
theorem l_change {zz : Nat → Nat} {b w p : Nat} {v : Int} {h : AH} {Q : Int → AH → Prop} {c : Nat → Int} (hw : w < 2) (T : TxL h (b + w) c) (kd : hkd h (b + 2) = (1, 3)) (lo : hlo h ≤ b) (dv : haI h (b + 2) (w : Int) = (Nc c : Int)) (hn : Nc c ≤ 8) (hp : p < 80) (hv : v = 32 ∨ v ≠ 32 ∧ Nc c ≤ 7) (q : ∀ h' : AH, Fr h h' b (b + 3) → TxL h' (b + w) (un c p v) → haI h' (b + 2) (w : Int) = (Nc (un c p v) : Int) → (∀ j : Int, j ≠ (w : Int) → haI h' (b + 2) j = haI h (b + 2) j) → (∀ r, r ≠ b + w → r ≠ b + 2 → haI h' r = haI h r) → Q (c p) h') : w_L_change zz p v w (b + w) (b + 2) h Q := by
  obtain ⟨kt, T⟩ := T
  obtain ⟨k, hk⟩ : ∃ k, k = cn c p := ⟨_, rfl⟩
  have hkm : k ≤ Nc c := by rw [hk]; exact cn_mono (by omega)
  unfold w_L_change
  obtain ⟨I, hI⟩ : ∃ I : Nat → Int → AH → Prop, ∀ m x g, I m x g ↔ ∃ i : Nat, i ≤ Nc c ∧ m = Nc c - i ∧ x = (i : Int) ∧ g = h ∧ i ≤ k := ⟨_, fun _ _ _ => Iff.rfl⟩
  refine ⟨I, ⟨_, (hI _ _ _).mpr ⟨0, Nat.zero_le _, rfl, rfl, rfl, Nat.zero_le _⟩⟩, ?_⟩
  intro m x g hi9
  obtain ⟨i, hi, rfl, rfl, eg, hik⟩ := (hI _ _ _).mp hi9
  subst eg
  rw [okI_of kd, dv]
  refine ⟨⟨by omega, by omega⟩, ?_⟩
  refine jn_in (fun K28 hK28 => ?_)
  have main : i = k → K28 g := by
    intro eik
    subst eik
    rw [hK28]
    simp only
    rw [okI_of kd, dv]
    refine ⟨⟨by omega, by omega⟩, ?_⟩
    refine jn_in (fun K52 hK52 => ?_)
    have cp_i : c p ≠ 32 → i < Nc c ∧ Lc c i = p := fun hc => by rw [hk]; exact Lc_of hp hc
    have go : ∀ t : Int, (t = 1 ∧ c p ≠ 32 ∨ t = 0 ∧ c p = 32) → K52 t g := by
      intro t ht
      rw [hK52]
      simp only
      refine jn_in (fun K72 hK72 => ?_)
      have go2 : K72 (c p) g := by
        rw [hK72]
        simp only
        refine jn_in (fun K217 hK217 => ?_)
        refine jn_in (fun K129 hK129 => ?_)
        have done : ∀ g' : AH, Fr g g' b (b + 3) → TxL g' (b + w) (un c p v) → haI g' (b + 2) (w : Int) = (Nc (un c p v) : Int) → (∀ j : Int, j ≠ (w : Int) → haI g' (b + 2) j = haI g (b + 2) j) → (∀ r, r ≠ b + w → r ≠ b + 2 → haI g' r = haI g r) → K217 g' := by
          intro g' h1 h2 h3 h4 h5
          rw [hK217]; exact q g' h1 h2 h3 h4 h5
        have k129 : ¬ (v = 32 ∧ c p ≠ 32) → K129 g := by
          intro hno
          rw [hK129]
          simp only
          refine jn_in (fun K152 hK152 => ?_)
          have k152 : ¬ (v ≠ 32 ∧ c p ≠ 32) → K152 g := by
            intro hno2
            have hc : c p = 32 := by
              by_cases e : c p = 32
              · exact e
              · by_cases e2 : v = 32
                · exact absurd ⟨e2, e⟩ hno
                · exact absurd ⟨e2, e⟩ hno2
            rw [hK152]
            refine ⟨fun hv32 => ?_, fun hv32 => ?_⟩
            · have e : un c p v = c := by
                funext j
                by_cases ej : j = p
                · rw [ej, un_s, hv32, hc]
                · rw [un_n ej]
              exact done g (Fr.refl _ _ _) (by rw [e]; exact ⟨kt, T⟩) (by rw [e]; exact dv) (fun _ _ => rfl) (fun _ _ _ => rfl)
            · have hn7 : Nc c ≤ 7 := by omega
              obtain ⟨i1, i2, i3, i4⟩ := Lc_ins hp hc hv32
              rw [← hk] at i2 i3 i4
              rw [okI_of kd, dv]
              refine ⟨⟨by omega, by omega⟩, by unfold inR; omega, by unfold inR; omega, fun y hy => ?_⟩
              obtain ⟨J, hJ⟩ : ∃ J : Nat → Int → AH → Prop, ∀ m y g', J m y g' ↔ (2 * (i : Int) - 1 ≤ y ∧ y ≤ 2 * (Nc c : Int) - 1) ∧ m = (y + 1).toNat ∧ ∃ f : Int → Int, g' = saI g (b + w) f ∧ (∀ j : Int, y < j → j ≤ 2 * (Nc c : Int) - 1 → f (j + 2) = haI g (b + w) j) ∧ ∀ j : Int, j ≤ y + 2 → f j = haI g (b + w) j := ⟨_, fun _ _ _ => Iff.rfl⟩
              refine ⟨J, ⟨_, (hJ _ _ _).mpr ⟨⟨by omega, by omega⟩, rfl, haI g (b + w), saI_self.symm, fun j h1 h2 => by omega, fun j _ => rfl⟩⟩, ?_⟩
              intro m2 y2 g2 hj9
              obtain ⟨hy2, rfl, f, rfl, f1, f2⟩ := (hJ _ _ _).mp hj9
              have kt2 : hkd (saI g (b + w) f) (b + w) = (1, 18) := kt
              have fv : haI (saI g (b + w) f) (b + w) = f := by rw [haI_saI, if_pos rfl]
              rw [okW_of kt2, okI_of kt2, okW_of kt2, fv]
              refine ⟨by unfold inR; omega, fun hc2 => ?_, fun hc2 => ?_⟩
              · refine ⟨by unfold inR; omega, ⟨by omega, by omega, by show hlo g ≤ _; omega⟩, fun g3 e3 => ?_⟩
                have kt3 : hkd g3 (b + w) = (1, 18) := by rw [e3]; exact kt
                rw [okW_of kt3]
                refine ⟨by unfold inR; omega, by unfold inR; omega, ⟨by omega, by omega, by rw [e3]; show hlo g ≤ _; omega⟩, fun g4 e4 => ?_⟩
                have kd4 : hkd g4 (b + 2) = (1, 3) := by rw [e4, e3]; exact kd
                have d4 : haI g4 (b + 2) = haI g (b + 2) := by rw [e4, haI_saI, if_neg (by omega), e3, haI_saI, if_neg (by omega), haI_saI, if_neg (by omega)]
                rw [okI_of kd4, okW_of kd4, d4, dv]
                refine ⟨⟨by omega, by omega⟩, by unfold inR; omega, ⟨by omega, by omega, by rw [e4, e3]; show hlo g ≤ _; omega⟩, fun g5 e5 => ?_⟩
                refine done g5 ?_ ⟨by rw [e5, e4, e3]; exact kt, fun a ha => ?_⟩ ?_ (fun j hj => ?_) (fun r h1 h2 => ?_)
                · rw [e5, e4, e3]
                  exact (((Fr.sa (by omega) (by omega)).tsa (by omega) (by omega)).tsa (by omega) (by omega)).tsa (by omega) (by omega)
                · rw [i1] at ha
                  rw [e5, haI_saI, if_neg (by omega), e4, haI_saI, if_pos rfl, e3, haI_saI, if_pos rfl, u1_apply, u1_apply, u1_apply, u1_apply]
                  by_cases ea : a = i
                  · subst ea
                    rw [if_neg (by omega), if_pos rfl, if_pos rfl, i2]
                    refine ⟨rfl, ?_⟩
                    show v = un c p v (Lc (un c p v) a)
                    rw [i2, un_s]
                  · rw [if_neg (by omega), if_neg (by omega), if_neg (by omega), if_neg (by omega)]
                    by_cases el : a < i
                    · obtain ⟨l1, l2⟩ := i3 a el
                      rw [f2 _ (by omega), f2 _ (by omega), l1]
                      have tt := T a (by omega)
                      refine ⟨tt.1, ?_⟩
                      show _ = un c p v (Lc (un c p v) a)
                      rw [l1, un_n (by omega)]; exact tt.2
                    · obtain ⟨a', rfl⟩ : ∃ a', a = a' + 1 := ⟨a - 1, by omega⟩
                      obtain ⟨l1, l2⟩ := i4 a' (by omega) (by omega)
                      have tt := T a' (by omega)
                      have z1 := f1 (2 * (a' : Int)) (by omega) (by omega)
                      have z2 := f1 (2 * (a' : Int) + 1) (by omega) (by omega)
                      rw [show 2 * ((a' + 1 : Nat) : Int) = 2 * (a' : Int) + 2 by omega, show 2 * (a' : Int) + 2 + 1 = 2 * (a' : Int) + 1 + 2 by omega, z1, z2, l1]
                      refine ⟨tt.1, ?_⟩
                      show _ = un c p v (Lc (un c p v) (a' + 1))
                      rw [l1, un_n (by omega)]; exact tt.2
                · rw [e5, haI_saI, if_pos rfl, u1_apply, if_pos rfl, i1]; omega
                · rw [e5, haI_saI, if_pos rfl, u1_apply, if_neg hj]
                · rw [e5, haI_saI, if_neg h2, e4, haI_saI, if_neg h1, e3, haI_saI, if_neg h1, haI_saI, if_neg h1]
              · refine ⟨by unfold inR; omega, ⟨by omega, by omega⟩, ⟨by omega, by omega, by show hlo g ≤ _; omega⟩, fun g3 e3 => ⟨by unfold inR; omega, fun z hz => ⟨_, ?_, (hJ _ _ _).mpr ⟨⟨by omega, by omega⟩, rfl, u1 f (y2 + 2) (f y2), ?_, fun j h1 h2 => ?_, fun j h1 => ?_⟩⟩⟩⟩
                · omega
                · rw [e3, saI_saI]
                · rw [u1_apply]
                  by_cases ej : j = y2
                  · rw [ej, if_pos rfl]; exact f2 _ (by omega)
                  · rw [if_neg (by omega)]; exact f1 j (by omega) h2
                · rw [u1_apply, if_neg (by omega)]; exact f2 j (by omega)
          refine ⟨fun hv32 => k152 (fun hh => hh.1 hv32), fun hv32 => ⟨fun ht0 => k152 (fun hh => by omega), fun ht0 => ?_⟩⟩
          have hc : c p ≠ 32 := by omega
          obtain ⟨c1, c2⟩ := cp_i hc
          obtain ⟨r1, r2⟩ := Lc_rep hp hc hv32
          rw [okW_of kt]
          refine ⟨by unfold inR; omega, by unfold inR; omega, ⟨by omega, by omega, by omega⟩, fun g3 e3 => done g3 ?_ ⟨by rw [e3]; exact kt, fun a ha => ?_⟩ ?_ (fun j _ => ?_) (fun r h1 h2 => ?_)⟩
          · rw [e3]; exact Fr.sa (by omega) (by omega)
          · rw [r1] at ha
            have tt := T a ha
            rw [e3, haI_saI, if_pos rfl, u1_apply, u1_apply, if_neg (by omega), r2 a ha]
            refine ⟨tt.1, ?_⟩
            show _ = un c p v (Lc (un c p v) a)
            rw [r2 a ha]
            by_cases ea : a = i
            · rw [ea, if_pos rfl, c2, un_s]
            · rw [if_neg (by omega), un_n (fun hh => ea (Lc_inj ha c1 (by rw [hh, c2])))]; exact tt.2
          · rw [e3, haI_saI, if_neg (by omega), dv, r1]
          · rw [e3, haI_saI, if_neg (by omega)]
          · rw [e3, haI_saI, if_neg h1]
        refine ⟨fun hv32 => k129 (fun hh => hv32 hh.1), fun hv32 => ⟨fun ht0 => k129 (fun hh => by omega), fun ht0 => ?_⟩⟩
        have hc : c p ≠ 32 := by omega
        obtain ⟨c1, c2⟩ := cp_i hc
        obtain ⟨r1, r2, r3⟩ := Lc_del hp hc
        rw [← hk] at r2 r3
        rw [hv32] at done
        rw [okI_of kd, okW_of kd, dv]
        refine ⟨⟨by omega, by omega⟩, by unfold inR; omega, ⟨by omega, by omega, by omega⟩, fun g2 e2 => ⟨by unfold inR; omega, fun y hy => ?_⟩⟩
        have t2 : haI g2 (b + w) = haI g (b + w) := by rw [e2, haI_saI, if_neg (by omega)]
        obtain ⟨J, hJ⟩ : ∃ J : Nat → Int → AH → Prop, ∀ m y g', J m y g' ↔ (2 * (i : Int) ≤ y ∧ y ≤ 2 * (Nc c : Int) - 2) ∧ m = (2 * (Nc c : Int) - y).toNat ∧ ∃ f : Int → Int, g' = saI g2 (b + w) f ∧ (∀ j : Int, 2 * (i : Int) ≤ j → j < y → f j = haI g (b + w) (j + 2)) ∧ ∀ j : Int, (j < 2 * (i : Int) ∨ y ≤ j) → f j = haI g (b + w) j := ⟨_, fun _ _ _ => Iff.rfl⟩
        refine ⟨J, ⟨_, (hJ _ _ _).mpr ⟨⟨by omega, by omega⟩, rfl, haI g2 (b + w), saI_self.symm, fun j h1 h2 => by omega, fun j _ => by rw [t2]⟩⟩, ?_⟩
        intro m2 y2 g3 hj9
        obtain ⟨hy2, rfl, f, rfl, f1, f2⟩ := (hJ _ _ _).mp hj9
        have kt2 : hkd (saI g2 (b + w) f) (b + w) = (1, 18) := by rw [e2]; exact kt
        have kd2 : hkd (saI g2 (b + w) f) (b + 2) = (1, 3) := by rw [e2]; exact kd
        have fv : haI (saI g2 (b + w) f) (b + w) = f := by rw [haI_saI, if_pos rfl]
        have d2 : haI (saI g2 (b + w) f) (b + 2) = u1 (haI g (b + 2)) (w : Int) ((Nc c : Int) - 1) := by rw [haI_saI, if_neg (by omega), e2, haI_saI, if_pos rfl]
        rw [okI_of kd2, okI_of kt2, okW_of kt2, fv, d2, u1_apply, if_pos rfl]
        refine ⟨⟨by omega, by omega⟩, by unfold inR; omega, fun hc2 => ?_, fun hc2 => ?_⟩
        · refine done _ ?_ ⟨kt2, fun a ha => ?_⟩ ?_ (fun j hj => ?_) (fun r h1 h2 => ?_)
          · rw [e2]; exact (Fr.sa (by omega) (by omega)).tsa (by omega) (by omega)
          · rw [fv]
            by_cases el : a < i
            · obtain ⟨l1, l2⟩ := r2 a el
              have tt := T a (by omega)
              rw [f2 _ (by omega), f2 _ (by omega), l1]
              refine ⟨tt.1, ?_⟩
              show _ = un c p 32 (Lc (un c p 32) a)
              rw [l1, un_n (by omega)]; exact tt.2
            · obtain ⟨l1, l2⟩ := r3 a (by omega) (by omega)
              have tt := T (a + 1) (by omega)
              rw [f1 _ (by omega) (by omega), f1 _ (by omega) (by omega), l1]
              rw [show 2 * ((a + 1 : Nat) : Int) = 2 * (a : Int) + 2 by omega, show 2 * (a : Int) + 2 + 1 = 2 * (a : Int) + 1 + 2 by omega] at tt
              refine ⟨tt.1, ?_⟩
              show _ = un c p 32 (Lc (un c p 32) a)
              rw [l1, un_n (by omega)]; exact tt.2
          · rw [d2, u1_apply, if_pos rfl]; omega
          · rw [d2, u1_apply, if_neg hj]
          · rw [haI_saI, if_neg h1, e2, haI_saI, if_neg h2]
        · refine ⟨by unfold inR; omega, ⟨by omega, by omega⟩, ⟨by omega, by omega, by rw [e2]; show hlo g ≤ _; omega⟩, fun g4 e4 => ⟨by unfold inR; omega, fun z hz => ⟨_, ?_, (hJ _ _ _).mpr ⟨⟨by omega, by omega⟩, rfl, u1 f y2 (f (y2 + 2)), ?_, fun j h1 h2 => ?_, fun j h1 => ?_⟩⟩⟩⟩
          · omega
          · rw [e4, saI_saI]
          · rw [u1_apply]
            by_cases ej : j = y2
            · rw [ej, if_pos rfl]; exact f2 _ (by omega)
            · rw [if_neg ej]; exact f1 j h1 (by omega)
          · rw [u1_apply, if_neg (by omega)]; exact f2 j (by omega)
      rcases ht with ⟨rfl, hc⟩ | ⟨rfl, hc⟩
      · obtain ⟨c1, c2⟩ := cp_i hc
        refine ⟨fun h0 => absurd h0 (by omega), fun _ => ⟨by unfold inR; omega, by unfold inR; omega, by rw [okI_of kt]; exact ⟨by omega, by omega⟩, ?_⟩⟩
        have e : haI g (b + w) (2 * (i : Int) + 1) = c p := by rw [(T i c1).2]; show c (Lc c i) = c p; rw [c2]
        rw [e]; exact go2
      · refine ⟨fun _ => ?_, fun h0 => absurd rfl h0⟩
        rw [← hc]; exact go2
    refine jn_in (fun K51 hK51 => ?_)
    have k51 : c p = 32 → K51 g := fun hc => by rw [hK51]; exact go 0 (.inr ⟨rfl, hc⟩)
    refine ⟨fun hle => k51 ?_, fun hgt => ⟨by unfold inR; omega, by rw [okI_of kt]; exact ⟨by omega, by omega⟩, fun hne => k51 ?_, fun heq => go 1 (.inl ⟨rfl, ?_⟩)⟩⟩
    · by_cases e : c p = 32
      · exact e
      · have := (cp_i e).1; omega
    · by_cases e : c p = 32
      · exact e
      · have z := cp_i e
        rw [(T i z.1).1, z.2] at hne; exact absurd rfl hne
    · have hin : i < Nc c := by omega
      rw [(T i hin).1] at heq
      have e : Lc c i = p := by omega
      rw [← e]; exact Lc_nb hin
  refine ⟨fun hc => main (by omega), fun hc => ⟨by unfold inR; omega, by rw [okI_of kt]; exact ⟨by omega, by omega⟩, fun hge => main ?_, fun hlt => ⟨by unfold inR; omega, fun z hz => ⟨_, by omega, (hI _ _ _).mpr ⟨i + 1, by omega, rfl, by omega, rfl, ?_⟩⟩⟩⟩⟩
  · have hin : i < Nc c := by omega
    rw [(T i hin).1] at hge
    have := (Lc_lt_k (p := p) hin)
    rw [← hk] at this
    have h2 : ¬ Lc c i < p := by omega
    have h3 : ¬ i < k := fun hh => h2 (this.mpr hh)
    omega
  · have hin : i < Nc c := by omega
    rw [(T i hin).1] at hlt
    have := (Lc_lt_k (p := p) hin).mp (by omega)
    omega
