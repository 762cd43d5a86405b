/-! THE PURE LAYER, 44: both objects side by side -/
theorem PR.ag {h h' : AH} {s : Nat} {σ : PT} (T : PR h s σ) (A : ∀ q, s + 15 ≤ q → q < s + 19 → Ag h h' q) : PR h' s σ := by
  unfold PR at *
  rw [(A (s + 15) (by omega) (by omega)).2.2.2, (A (s + 16) (by omega) (by omega)).2.2.2, (A (s + 17) (by omega) (by omega)).2.2.2, (A (s + 18) (by omega) (by omega)).2.2.2]; exact T
theorem PO.ag {h h' : AH} {s n0 n1 : Nat} {σ : PT} (T : PO h s n0 n1 σ) (A : ∀ q, s + 19 ≤ q → q < s + 20 → Ag h h' q) : PO h' s n0 n1 σ := by
  unfold PO at *
  rw [(A (s + 19) (by omega) (by omega)).2.2.2]; exact T
theorem MR.ag {h h' : AH} {s F n : Nat} {gl s0 : Nat → Int} {w p : Int} (T : MR h s F n gl s0 w p) (A : ∀ q, s + 21 ≤ q → q < s + 30 → Ag h h' q) : MR h' s F n gl s0 w p := by
  obtain ⟨T1, T2, T3, T4⟩ := T
  have e21 := (A (s + 21) (by omega) (by omega)).2.1
  refine ⟨by rw [e21]; exact T1, ?_, ?_, ?_⟩
  · unfold MV at *
    rw [e21, (A (s + 22) (by omega) (by omega)).2.2.2, (A (s + 23) (by omega) (by omega)).2.2.2, (A (s + 24) (by omega) (by omega)).2.2.2, (A (s + 25) (by omega) (by omega)).2.2.2, (A (s + 26) (by omega) (by omega)).2.2.2, (A (s + 27) (by omega) (by omega)).2.2.2]; exact T2
  · unfold HQ at *
    rw [e21, (A (s + 28) (by omega) (by omega)).2.2.2]; exact T3
  · unfold TR at *
    rw [(A (s + 29) (by omega) (by omega)).2.2.2]; exact T4
theorem WR.ag {h h' : AH} {s F : Nat} {c0 c1 st : Nat → Int} (W : WR h s c0 c1 st F) (A : ∀ q, s + 8 ≤ q → q < s + 30 → Ag h h' q) : WR h' s c0 c1 st F := by
  obtain ⟨W1, W2, W3, W4, W5, W6, W7⟩ := W
  exact ⟨W1.ag (fun q h1 h2 => A q (by omega) (by omega)), W2.ag (fun q h1 h2 => A q (by omega) (by omega)), W3.ag (fun q h1 h2 => A q (by omega) (by omega)), by rw [(A (s + 8) (by omega) (by omega)).2.1]; exact W4, fun k hk e => by rw [(A (s + 9) (by omega) (by omega)).2.2.2]; exact W5 k hk e, fun k hk e => by rw [(A (s + 10) (by omega) (by omega)).2.2.2]; exact W6 k hk e, W7⟩
theorem CR.ag {h h' : AH} {zz : Nat → Nat} {x : Nat} {D : DT} (C : CR h zz x D) (A : ∀ q, q < x + 113 → Ag h h' q) (lo : hlo h' = hlo h) (AR : haR h' (x + 61) = haR h (x + 61)) : CR h' zz x D := by
  obtain ⟨T, Z, ⟨t0, t1, S⟩, G, B, n1, n2, ⟨pm, V⟩, W⟩ := C
  have lx := T.2.2.2.2.2.2.2.2.1
  refine ⟨?_, ?_, ⟨t0, t1, S.ag lo (fun q _ _ => A q (by omega))⟩, G, ⟨by rw [(A (x + 62) (by omega)).2.1]; exact B.1, B.2.1, fun k hk => by rw [(A (x + 62 + 1) (by omega)).2.2.2]; exact B.2.2 k hk⟩, by rw [(A x (by omega)).2.1]; exact n1, n2, ⟨pm, ?_, V.2.1, fun i hi => ?_⟩, ?_⟩
  · obtain ⟨t1, t2, t3, t4, t5, t6, t7, t8, t9, t10, t11, t12, t13, t14⟩ := T
    have ex := A x (by omega)
    refine ⟨by rw [ex.1]; exact t1, by rw [ex.2.2.1]; exact t2, by rw [ex.2.2.1]; exact t3, by rw [ex.2.2.1]; exact t4, by rw [ex.2.2.1]; exact t5, by rw [ex.2.2.1]; exact t6, by rw [ex.2.2.1]; exact t7, by rw [(A (x + 61) (by omega)).1]; exact t8, by rw [lo]; exact t9, t10.ag lo (fun q _ _ => A q (by omega)), ⟨t11.1.ag lo (fun q _ _ => A q (by omega)), t11.2.1.ag lo (fun q _ _ => A q (by omega)), t11.2.2.ag lo (fun q _ _ => A q (by omega))⟩, ⟨t12.1.ag (fun q _ _ => A q (by omega)), t12.2.1.ag (fun q _ _ => A q (by omega)), t12.2.2.ag (fun q _ _ => A q (by omega))⟩, ⟨t13.1.ag (fun q _ _ => A q (by omega)), t13.2.1.ag (fun q _ _ => A q (by omega)), t13.2.2.ag (fun q _ _ => A q (by omega))⟩, fun i hi => ?_⟩
    obtain ⟨u1, u2, u3⟩ := t14 i hi
    exact ⟨u1.ag lo (fun q _ _ => A q (by omega)), u2.ag lo (fun q _ _ => A q (by omega)), u3.ag lo (fun q _ _ => A q (by omega))⟩
  · obtain ⟨Z1, Z2, Z3, Z4⟩ := Z
    have z : ∀ k, k < 3 → zz k < x + 113 := fun k hk => by have := (Z1 k hk).2; omega
    refine ⟨fun k hk => by rw [(A _ (z k hk)).1, lo]; exact Z1 k hk, fun k hk => ?_, fun k hk => ?_, fun k hk => ?_⟩
    · rw [(A _ (z 0 (by omega))).2.2.2]; exact Z2 k hk
    · rw [(A _ (z 1 (by omega))).2.2.2]; exact Z3 k hk
    · rw [(A _ (z 2 (by omega))).2.2.2]; exact Z4 k hk
  · intro i hi
    rw [AR]; exact V.1 i hi
  · have hp := (V.1 i (by omega)).1
    exact ⟨(V.2.2 i hi).1.ag lo (fun q _ _ => A q (by omega)), (V.2.2 i hi).2⟩
  · rw [(A x (by omega)).2.1]
    rcases W with W | ⟨w1, FF, W⟩
    · exact .inl W
    · exact .inr ⟨w1, FF, W.ag (fun q _ _ => A q (by omega))⟩
