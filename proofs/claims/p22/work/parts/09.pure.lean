def okTh (t : Nat → Int32) (pts : Int32) : Prop := ∀ i : Nat, i < pts.toNatClampNeg → 0 ≤ prevD t i ∧ prevD t i ≤ t i ∧ t i ≤ 1000
def okWm (f : Nat → Int32) : Prop := ∀ i : Nat, -30 ≤ f i ∧ f i ≤ 50
theorem mdiv {a b c : Int32} (ha : 0 ≤ a) (ha1 : a ≤ 1000) (hb : 0 ≤ b) (hbc : b < c) (hc : c ≤ 2000) : 0 ≤ a * b / c ∧ a * b / c ≤ a := by
  obtain ⟨A, hA, rfl⟩ := nI_of2 (x := a) (M := 1000) (n := 1000) rfl (by grind) ha1
  obtain ⟨C, hC, rfl⟩ := nI_of2 (x := c) (M := 2000) (n := 2000) rfl (by grind) hc
  obtain ⟨B, hB, rfl⟩ := nI_of2 (x := b) (M := 2000) (n := 2000) rfl (by grind) (by grind)
  have hBC : B < C := by
    rcases Nat.lt_or_ge B C with h | h
    · exact h
    · exact absurd (nI_le h (by omega)) (by grind)
  have h1 : A * B ≤ 1000 * 2000 := Nat.mul_le_mul hA hB
  have h2 : A * B / C ≤ A := by
    apply Nat.div_le_of_le_mul
    rw [Nat.mul_comm C A]
    exact Nat.mul_le_mul_left A (by omega)
  rw [pk_mul, pk_div (by omega) (by omega) (by omega)]
  exact ⟨nI_pos' (by omega), nI_le h2 (by omega)⟩
theorem hof_b {fd fh : Nat → Int32} {pts d : Int32} (hd : okDeg fd pts) (ht : okTh fh pts) : ∀ (n i : Nat) (g h : Int32), n + i ≤ 7 → g = prevD fd i → h = prevD fh i → g ≤ d → 0 ≤ h → h ≤ 1000 → 0 ≤ hof fd fh pts d n i g h ∧ hof fd fh pts d n i g h ≤ 1000 := by
  intro n
  induction n with
  | zero => intro i g h _ _ _ _ h0 h1; exact ⟨h0, h1⟩
  | succ n ih =>
    intro i g h hni eg eh hgd h0 h1
    show 0 ≤ (if pts ≤ nI i ∨ 6 ≤ nI i then h else if d < fd i ∧ 0 < fd i - g then h + (fh i - h) * (d - g) / (fd i - g) else hof fd fh pts d n (i + 1) (fd i) (fh i)) ∧ (if pts ≤ nI i ∨ 6 ≤ nI i then h else if d < fd i ∧ 0 < fd i - g then h + (fh i - h) * (d - g) / (fd i - g) else hof fd fh pts d n (i + 1) (fd i) (fh i)) ≤ 1000
    by_cases hc : pts ≤ nI i ∨ 6 ≤ nI i
    · rw [if_pos hc]
      exact ⟨h0, h1⟩
    · rw [if_neg hc]
      have hi : i < pts.toNatClampNeg := tb_cl rfl (by omega) (fun q => hc (Or.inl q))
      have d1 := hd i hi
      have t1 := ht i hi
      rw [← eg] at d1
      rw [← eh] at t1
      by_cases h2 : d < fd i ∧ 0 < fd i - g
      · rw [if_pos h2]
        have m1 := mdiv (a := fh i - h) (b := d - g) (c := fd i - g) (by grind) (by grind) (by grind) (by grind) (by grind)
        constructor <;> grind
      · rw [if_neg h2]
        exact ih (i + 1) (fd i) (fh i) (by omega) rfl rfl (by grind) (by grind) (by grind)
theorem sumD_b {fw : Nat → Int32} {bw po : Int32} (hw : okWm fw) (hb0 : 0 ≤ bw) (hb1 : bw ≤ 20) : ∀ n : Nat, n ≤ 40 → 0 ≤ sumD fw bw po n ∧ sumD fw bw po n ≤ nI (50 * n)
  | 0, _ => by
    show (0 : Int32) ≤ 0 ∧ (0 : Int32) ≤ nI (50 * 0)
    decide
  | n + 1, hn => by
    have ih := sumD_b hw hb0 hb1 (po := po) n (by omega)
    have w1 := hw (po.toNatClampNeg + n)
    have e1 : nI (50 * (n + 1)) = nI (50 * n) + 50 := by
      rw [show (50 : Int32) = nI 50 from rfl, nI_add]
      rfl
    have b1 : nI (50 * n) ≤ 2000 := by
      have := nI_le (a := 50 * n) (b := 2000) (by omega) (by omega)
      exact this
    have b2 : 0 ≤ nI (50 * n) := nI_pos' (by omega)
    show 0 ≤ sumD fw bw po n + (if bw < fw (po.toNatClampNeg + n) then fw (po.toNatClampNeg + n) - bw else 0) ∧ sumD fw bw po n + (if bw < fw (po.toNatClampNeg + n) then fw (po.toNatClampNeg + n) - bw else 0) ≤ nI (50 * (n + 1))
    rw [e1]
    have t1 : 0 ≤ (if bw < fw (po.toNatClampNeg + n) then fw (po.toNatClampNeg + n) - bw else 0) ∧ (if bw < fw (po.toNatClampNeg + n) then fw (po.toNatClampNeg + n) - bw else 0) ≤ 50 := by
      split <;> constructor <;> grind
    generalize (if bw < fw (po.toNatClampNeg + n) then fw (po.toNatClampNeg + n) - bw else 0) = T at t1 ⊢
    generalize sumD fw bw po n = S at ih ⊢
    generalize nI (50 * n) = C at ih b1 b2 ⊢
    clear e1 w1
    constructor <;> grind
theorem hrd_b {fw : Nat → Int32} {bw : Int32} {fd fh : Nat → Int32} {pts po day : Int32} (hw : okWm fw) (hb0 : 0 ≤ bw) (hb1 : bw ≤ 20) (hd : okDeg fd pts) (ht : okTh fh pts) (h40 : day ≤ 40) : 0 ≤ hrd fw bw fd fh pts po day ∧ hrd fw bw fd fh pts po day ≤ 1000 := by
  have hn := cl_le (n := day) (M := 40) (k := 40) rfl h40
  have s1 := sumD_b hw hb0 hb1 (po := po) (day.toNatClampNeg - po.toNatClampNeg) (by omega)
  unfold hrd
  rw [if_neg (by grind)]
  exact hof_b hd ht 7 0 0 0 (by omega) rfl rfl s1.1 (by decide) (by decide)
