theorem law_nw {b : Nat} {s : State} (hts : ∀ w ∈ lw_tbl, w.before #[Value.ref b] s = true) : nw_ok s := ⟨fun w hw => va_Nw.of (nw_tab w hw) (hts w (nw_tbl w hw)), over_moved (Vm.Alike.refl _) (hts (Cond.arrayOver (.array .int)) (by decide +kernel))⟩
theorem law_K {b : Nat} {s : State} (hts : ∀ w ∈ lw_tbl, w.before #[Value.ref b] s = true) : ∃ (D : va_G) (cI cQ : ClassId), va_K D vwCl [(cI, .int), (cQ, .array .int)] s := by
  obtain ⟨c0, i0, h0⟩ := u_known (C := RX0) (T := TX0) (N := 8) (n := 8) hts inX0 (hts (.instantiable RX0 8) (by decide +kernel))
  obtain ⟨c1, i1, h1⟩ := u_known (C := RX1) (T := TX1) (N := 9) (n := 9) hts inX1 (hts (.instantiable RX1 9) (by decide +kernel))
  obtain ⟨c2, i2, h2⟩ := u_known (C := RX2) (T := TX2) (N := 2) (n := 2) hts inX2 (hts (.instantiable RX2 2) (by decide +kernel))
  obtain ⟨c3, i3, h3⟩ := u_known (C := RX3) (T := TX3) (N := 8) (n := 8) hts inX3 (hts (.instantiable RX3 8) (by decide +kernel))
  obtain ⟨c4, i4, h4⟩ := u_known (C := RX4) (T := TX4) (N := 25) (n := 25) hts inX4 (hts (.instantiable RX4 25) (by decide +kernel))
  obtain ⟨cI, kI, comp, g1, g2, g3⟩ := Cond.arrayClass_spec (hts (.arrayClass .int) (by decide +kernel))
  obtain ⟨comp2, cQ, kQ, q1, q2, q3, q4, q5⟩ := arrayOverA_spec (hts (.arrayOver (.array .int)) (by decide +kernel))
  refine ⟨(fun k => if k = 0 then c0 else if k = 1 then c1 else if k = 2 then c2 else if k = 3 then c3 else c4, fun k => if k = 0 then i0 else if k = 1 then i1 else if k = 2 then i2 else if k = 3 then i3 else i4), cI, cQ, ?_, ?_⟩
  · intro k q hq
    match k, hq with
    | 0, hq => cases hq; exact h0
    | 1, hq => cases hq; exact h1
    | 2, hq => cases hq; exact h2
    | 3, hq => cases hq; exact h3
    | 4, hq => cases hq; exact h4
    | k + 5, hq => simp [vwCl] at hq
  · intro k q hq
    match k, hq with
    | 0, hq => cases hq; exact ⟨fun n z => ⟨fun k h => (by cases h), kI, g2, comp, g3⟩, g1⟩
    | 1, hq => cases hq; exact ⟨fun n z => ⟨fun k h => (by cases h), kQ, q3, comp2, q4⟩, q5⟩
    | k + 2, hq => simp at hq
theorem bound_all2 {M : Nat → Nat → Int32} {u w v : Nat → Int32} {n m r s : Int32} (hE : eqM M u) (hM : okLd M) (hA : acy M n.toNatClampNeg) (hn1 : n ≤ 10) (en : n = m) (P1 : ¬ n = 0 → r = mxF (r3 M n.toNatClampNeg w (n.toNatClampNeg - 1)) n.toNatClampNeg + 1) (Q1 : ¬ m = 0 → s = mxF (r3 (mat u) m.toNatClampNeg v m.toNatClampNeg) m.toNatClampNeg + 1) (P0 : n = 0 → r = 0) (Q0 : m = 0 → s = 0) (h0 : ∀ i : Nat, i < n.toNatClampNeg → w i = 0) (h1 : ∀ i : Nat, i < m.toNatClampNeg → v i = 0) : r = s := by
  subst en
  exact bound_all hE hM hA hn1 h0 h1 P0 P1 Q0 Q1
