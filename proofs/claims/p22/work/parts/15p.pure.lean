def rPiece (num k f v s n : Int32) : Int32 := if k < 0 ∨ 3 < k ∨ f < 0 ∨ 5 < f ∨ s < 0 ∨ 2 < s then -1 else if v < 1 ∨ 200 < v ∨ n < 1 ∨ 9 < n then -2 else if num = 10 then -4 else num
def sNum (num k f v s n : Int32) : Int32 := if k < 0 ∨ 3 < k ∨ f < 0 ∨ 5 < f ∨ s < 0 ∨ 2 < s then num else if v < 1 ∨ 200 < v ∨ n < 1 ∨ 9 < n then num else if num = 10 then num else num + 1
def sPc (num k f v s n : Int32) (p : Nat → Int32) (x : Int32) : Nat → Int32 := if k < 0 ∨ 3 < k ∨ f < 0 ∨ 5 < f ∨ s < 0 ∨ 2 < s then p else if v < 1 ∨ 200 < v ∨ n < 1 ∨ 9 < n then p else if num = 10 then p else upd p num.toNatClampNeg x
theorem sPc_cs (num k f v s n : Int32) : (sNum num k f v s n = num ∧ ∀ p x, sPc num k f v s n p x = p) ∨ (¬ num = 10 ∧ sNum num k f v s n = num + 1 ∧ (∀ p x, sPc num k f v s n p x = upd p num.toNatClampNeg x) ∧ 0 ≤ s ∧ s ≤ 2 ∧ 1 ≤ v ∧ v ≤ 200) := by
  unfold sNum sPc
  by_cases h1 : k < 0 ∨ 3 < k ∨ f < 0 ∨ 5 < f ∨ s < 0 ∨ 2 < s
  · simp only [if_pos h1]
    exact Or.inl ⟨trivial, fun _ _ => trivial⟩
  · simp only [if_neg h1]
    by_cases h2 : v < 1 ∨ 200 < v ∨ n < 1 ∨ 9 < n
    · simp only [if_pos h2]
      exact Or.inl ⟨trivial, fun _ _ => trivial⟩
    · simp only [if_neg h2]
      by_cases h3 : num = 10
      · simp only [if_pos h3]
        exact Or.inl ⟨trivial, fun _ _ => trivial⟩
      · simp only [if_neg h3]
        exact Or.inr ⟨h3, trivial, fun _ _ => trivial, by grind, by grind, by grind, by grind⟩
