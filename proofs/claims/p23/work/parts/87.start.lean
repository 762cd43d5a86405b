/-! THE PURE LAYER, 46: the law from its entry -/
theorem sz_of {args : Array Value} {s : State} {tm : Term} {N : Nat} (hN : N < 2 ^ 31) (h : (Term.length tm).eval args s none [] s = some (.int (Int32.ofNat N))) : ∃ (a : Nat) (cell : Cell), tm.eval args s none [] s = some (.ref a) ∧ s.heap[a]? = some cell ∧ cell.slots.size = N := by
  obtain ⟨a, cell, ht, harr, hv⟩ := Term.length_spec h
  have hsz : cell.slots.size < 2 ^ 31 := by
    simp only [Term.eval, ht, harr, Option.bind_eq_bind, Option.bind_some] at h
    by_cases hlt : cell.slots.size < 2147483648
    · exact hlt
    · simp [hlt] at h
  obtain ⟨hcell, -, -, -⟩ := State.arrayAt?_spec harr
  refine ⟨a, cell, ht, hcell, ?_⟩
  have e : Int32.ofNat N = Int32.ofNat cell.slots.size := Value.int.inj hv
  have e1 := Int32.toInt_ofNat_small hN
  have e2 := Int32.toInt_ofNat_small hsz
  have e3 : (Int32.ofNat N).toInt = (Int32.ofNat cell.slots.size).toInt := by rw [e]
  rw [show (Int32.ofNat N).toInt = _ from e1, show (Int32.ofNat cell.slots.size).toInt = _ from e2] at e3
  exact (Int.ofNat.inj e3).symm
/-- a static table of eight ints -/
theorem st_arr {args : Array Value} {s : State} {tm : Term} (v : List Int32) (harr : (Cond.arrayOf tm .int).before args s = true) (hlen : (Cond.eq (.length tm) (.int 8)).before args s = true) (hel : ∀ j : Nat, j < 8 → (Cond.eq (.elem tm (.int (Int32.ofNat j))) (.int (v.getD j 0))).before args s = true) : ∃ (t : Nat) (cell : Cell), tm.eval args s none [] s = some (.ref t) ∧ s.heap[t]? = some cell ∧ s.isArrayOf cell .int ∧ cell.vm ≠ .unknown ∧ cell.slots.size = 8 ∧ ∀ j : Nat, j < 8 → cell.slots[j]? = some (.int (v.getD j 0)) := by
  obtain ⟨a, ce, h1, h2, h3⟩ := sz_of (N := 8) (by decide) (va_eqt hlen)
  obtain ⟨t, ht, cell, c1, c2, c3, c4, c5, c6, c7⟩ := va_Tof (N := 8) (f := fun j => .int (v.getD j 0)) (A := fun q => s.heap.size ≤ q) (by decide) harr (va_eqt hlen) (fun j hj => va_eqt (hel j hj)) (fun q h => Nat.not_le.mpr h)
  have e : a = t := by rw [h1] at ht; cases ht; rfl
  subst e
  rw [h2] at c1
  cases c1
  exact ⟨a, ce, h1, h2, c2, c3, h3, c6⟩
def slI (s : State) (q : Nat) (j : Int) : Int := match s.heap[q]? with
  | some ce => match ce.slots[j.toNat]? with
    | some (.int x) => x.toInt
    | _ => 0
  | none => 0
theorem slI_of {s : State} {q j : Nat} {ce : Cell} {x : Int32} (h : s.heap[q]? = some ce) (hj : ce.slots[j]? = some (.int x)) : slI s q (j : Int) = x.toInt := by
  unfold slI
  rw [h]
  show (match ce.slots[((j : Nat) : Int).toNat]? with | some (.int x) => x.toInt | _ => 0) = _
  rw [show ((j : Nat) : Int).toNat = j from rfl, hj]
def h00 (s : State) (S : Nat → Option Nat) : AH := ((s.heap.size, s.heap.size), fun q => match S q with | some n => (1, n) | none => (0, 0), fun _ _ => 0, fun _ _ => none, fun _ _ => 0, slI s, fun _ _ => none, fun _ _ => 0)
theorem w_least : ∀ j : Nat, j < 8 → Cond.eq (.elem (.static "TextMorph" "LEAST_VALUE" "[I") (.int (Int32.ofNat j))) (.int (([1, 0, 0, 0, 0, 0, 0, 0] : List Int32).getD j 0)) ∈ flatC (Jvm.Cond.and given_1 narrow_1) := by decide +kernel
theorem w_most : ∀ j : Nat, j < 8 → Cond.eq (.elem (.static "TextMorph" "MOST_VALUE" "[I") (.int (Int32.ofNat j))) (.int (([9, 200, 200, 1, 2, 9, 20, 20] : List Int32).getD j 0)) ∈ flatC (Jvm.Cond.and given_1 narrow_1) := by decide +kernel
theorem w_first : ∀ j : Nat, j < 8 → Cond.eq (.elem (.static "TextMorph" "VALUE_AT_FIRST" "[I") (.int (Int32.ofNat j))) (.int (([2, 60, 12, 0, 0, 3, 2, 2] : List Int32).getD j 0)) ∈ flatC (Jvm.Cond.and given_1 narrow_1) := by decide +kernel
theorem whole_kn {s : State} {args : Array Value} (hts : ∀ w ∈ lw_tbl, w.before args s = true) : ∃ G : va_G, va_K G vwCl [] s := by
  have hx : ∀ w ∈ xTb, w.before args s = true := fun w hw => hts w (xTb_of w hw)
  obtain ⟨a0, b0, K0⟩ := u_known (C := RX0) (T := TX0) (N := 3) (n := 3) hx ci0.2.1 (hts (.instantiable RX0 3) (by decide +kernel))
  obtain ⟨a1, b1, K1⟩ := u_known (C := RX1) (T := TX1) (N := 9) (n := 9) hx ci1.2.1 (hts (.instantiable RX1 9) (by decide +kernel))
  obtain ⟨a2, b2, K2⟩ := u_known (C := RX2) (T := TX2) (N := 13) (n := 13) hx ci2.2.1 (hts (.instantiable RX2 13) (by decide +kernel))
  obtain ⟨a3, b3, K3⟩ := u_known (C := RX3) (T := TX3) (N := 7) (n := 7) hx ci3.2.1 (hts (.instantiable RX3 7) (by decide +kernel))
  obtain ⟨a4, b4, K4⟩ := u_known (C := RX4) (T := TX4) (N := 3) (n := 3) hx ci4.2.1 (hts (.instantiable RX4 3) (by decide +kernel))
  obtain ⟨a5, b5, K5⟩ := u_known (C := RX5) (T := TX5) (N := 3) (n := 3) hx ci5.2.1 (hts (.instantiable RX5 3) (by decide +kernel))
  obtain ⟨a6, b6, K6⟩ := u_known (C := RX6) (T := TX6) (N := 8) (n := 8) hx ci6.2.1 (hts (.instantiable RX6 8) (by decide +kernel))
  refine ⟨(fun k => match k with | 0 => a0 | 1 => a1 | 2 => a2 | 3 => a3 | 4 => a4 | 5 => a5 | _ => a6, fun k => match k with | 0 => b0 | 1 => b1 | 2 => b2 | 3 => b3 | 4 => b4 | 5 => b5 | _ => b6), fun k q hq => ?_, fun k q h => by simp at h⟩
  match k, hq with
  | 0, hq => cases hq; exact K0
  | 1, hq => cases hq; exact K1
  | 2, hq => cases hq; exact K2
  | 3, hq => cases hq; exact K3
  | 4, hq => cases hq; exact K4
  | 5, hq => cases hq; exact K5
  | 6, hq => cases hq; exact K6
  | k + 7, hq => simp [vwCl] at hq
theorem whole_nf {s : State} {args : Array Value} (hts : ∀ w ∈ lw_tbl, w.before args s = true) (hgs : ∀ w ∈ flatC (Jvm.Cond.and given_1 narrow_1), w.before args s = true) : NF s := by
  refine ⟨va_Nw.of (A := args) rfl (hts _ nwM_in), va_Nw.of (A := args) rfl (hts _ nwF_in), fun w hw => absurd (List.mem_filter.mp hw).1 List.not_mem_nil, fun z hz => absurd hz List.not_mem_nil, fun z hz => absurd hz List.not_mem_nil, va_AO.of (hts (.arrayOver (.object RX4)) (by decide +kernel))⟩
