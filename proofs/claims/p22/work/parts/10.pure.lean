/-! ===== orders that hold every piece ===== -/
theorem okHas_app {f : Nat → Int32} {n m : Int32} (h : okHas f n) (h0 : 0 ≤ n) (h1 : n < 10) (e : m = n + 1) : okHas (upd f n.toNatClampNeg n) m := by
  intro p hp0 hp1
  have hs := cl_s h0 (by grind)
  by_cases hpn : p = n
  · exact ⟨n.toNatClampNeg, by rw [e, hs]; omega, by simp [upd, hpn]⟩
  · obtain ⟨i, hi, e2⟩ := h p hp0 (by grind)
    exact ⟨i, by rw [e, hs]; omega, by unfold upd; rw [if_neg (by omega)]; exact e2⟩
theorem okHas_0 {f : Nat → Int32} {n : Int32} (h : n ≤ 0) : okHas f n := fun p h0 h1 => absurd h1 (by grind)
theorem okHas_swap {f : Nat → Int32} {n : Int32} {a b : Nat} (h : okHas f n) (ha : a < n.toNatClampNeg) (hb : b < n.toNatClampNeg) : okHas (upd (upd f a (f b)) b (f a)) n := by
  intro p hp0 hp1
  obtain ⟨i, hi, e⟩ := h p hp0 hp1
  by_cases h1 : i = a
  · exact ⟨b, hb, by rw [← e, h1]; simp [upd]⟩
  · by_cases h2 : i = b
    · refine ⟨a, ha, ?_⟩
      by_cases h3 : a = b
      · rw [← e, h2]
        simp [upd, h3]
      · rw [← e, h2]
        simp [upd, h3]
    · exact ⟨i, hi, by simp [upd, h1, h2, e]⟩
theorem okRow_swap {f : Nat → Int32} {n : Int32} {a b : Nat} (h : okRow f n) (ha : a < n.toNatClampNeg) (hb : b < n.toNatClampNeg) : okRow (upd (upd f a (f b)) b (f a)) n := okRow_upd (okRow_upd h (h b hb).1 (h b hb).2) (h a ha).1 (h a ha).2
theorem ok_same {f g : Nat → Int32} {n : Int32} (e : ∀ j, j < n.toNatClampNeg → g j = f j) (h : okRow f n ∧ okHas f n) : okRow g n ∧ okHas g n := by
  refine ⟨fun i hi => by rw [e i hi]; exact h.1 i hi, fun p h0 h1 => ?_⟩
  obtain ⟨i, hi, e2⟩ := h.2 p h0 h1
  exact ⟨i, hi, by rw [e i hi]; exact e2⟩
/-- from w on one place down, up to k -/
def shL (f : Nat → Int32) (w k : Nat) : Nat → Int32 := fun j => if w ≤ j ∧ j < k then f (j + 1) else f j
/-- behind k one place up, up to n -/
def shR (f : Nat → Int32) (k n : Nat) : Nat → Int32 := fun j => if k < j ∧ j ≤ n then f (j - 1) else f j
theorem shL_0 (f : Nat → Int32) (w : Nat) : shL f w w = f := by
  funext j
  unfold shL
  rw [if_neg (by omega)]
theorem shL_s (f : Nat → Int32) {w k : Nat} (h : w ≤ k) : upd (shL f w k) k (shL f w k (k + 1)) = shL f w (k + 1) := by
  funext j
  unfold upd shL
  by_cases h1 : j = k
  · subst h1
    simp [h]
    intro _ b
    omega
  · by_cases h2 : w ≤ j ∧ j < k
    · simp [h1, h2, show j < k + 1 by omega]
    · simp [h1, h2, show ¬ (w ≤ j ∧ j < k + 1) by omega]
theorem shR_0 (f : Nat → Int32) (n : Nat) : shR f n n = f := by
  funext j
  unfold shR
  rw [if_neg (by omega)]
theorem shR_s (f : Nat → Int32) {k n : Nat} (h : k + 1 ≤ n) : upd (shR f (k + 1) n) (k + 1) (shR f (k + 1) n k) = shR f k n := by
  funext j
  unfold upd shR
  by_cases h1 : j = k + 1
  · subst h1
    simp [h]
    intro b _
    omega
  · by_cases h2 : k + 1 < j ∧ j ≤ n
    · simp [h1, h2, show k < j by omega]
    · simp [h1, h2, show ¬ (k < j ∧ j ≤ n) by omega]
theorem ok_move {f : Nat → Int32} {n p : Int32} {w i : Nat} (h : okRow f n ∧ okHas f n) (hw : w < n.toNatClampNeg) (hi : i < n.toNatClampNeg) (e : f w = p) : okRow (upd (shR (shL f w (n.toNatClampNeg - 1)) i (n.toNatClampNeg - 1)) i p) n ∧ okHas (upd (shR (shL f w (n.toNatClampNeg - 1)) i (n.toNatClampNeg - 1)) i p) n := by
  constructor
  · intro j hj
    unfold upd shR shL
    by_cases h1 : j = i
    · simp only [h1, if_true]
      rw [← e]
      exact h.1 w hw
    · simp only [h1, if_false]
      repeat' split
      all_goals exact h.1 _ (by omega)
  · intro q h0 h1
    by_cases hq : q = p
    · exact ⟨i, hi, by simp [upd, hq]⟩
    · obtain ⟨j, hj, ej⟩ := h.2 q h0 h1
      have hjw : j ≠ w := fun z => hq (by rw [← ej, z, e])
      obtain ⟨j1, hj1, e1⟩ : ∃ j1, j1 + 1 < n.toNatClampNeg ∧ shL f w (n.toNatClampNeg - 1) j1 = q := by
        rcases Nat.lt_or_ge j w with h2 | h2
        · exact ⟨j, by omega, by unfold shL; rw [if_neg (by omega)]; exact ej⟩
        · exact ⟨j - 1, by omega, by unfold shL; rw [if_pos (by omega), show j - 1 + 1 = j by omega]; exact ej⟩
      rcases Nat.lt_or_ge j1 i with h2 | h2
      · exact ⟨j1, by omega, by unfold upd shR; rw [if_neg (by omega), if_neg (by omega)]; exact e1⟩
      · exact ⟨j1 + 1, by omega, by unfold upd shR; rw [if_neg (by omega), if_pos (by omega)]; exact e1⟩
theorem cl_p {k v : Int32} (h0 : 0 ≤ k) (e : v = k - 1) (h : 1 ≤ k) : v.toNatClampNeg + 1 = k.toNatClampNeg := by
  have h1 : k = v + 1 := by grind
  have := cl_s (k := v) (by grind)
  by_cases h2 : v < 1000
  · rw [h1, this h2]
  · have a := Int32.le_iff_toInt_le.mp (show (1 : Int32) ≤ k from h)
    have o : (1 : Int32).toInt = 1 := rfl
    have e2 : v.toInt = k.toInt - 1 := by
      rw [e, Int32.toInt_sub, o]
      have l := Int32.toInt_lt k
      apply Int.bmod_eq_of_le <;> omega
    show v.toInt.toNat + 1 = k.toInt.toNat
    omega
theorem or_ge (x y : Int32) : x.toBitVec.toNat ≤ (x ||| y).toBitVec.toNat := by
  rw [Int32.toBitVec_or, BitVec.toNat_or]
  exact Nat.left_le_or
/-- the measure of 'while (seen != was)' -/
def msW (se wa : Int32) : Nat := 2 * (4294967296 - se.toBitVec.toNat) + (if se = wa then 0 else 1)
theorem msW_dec {se wa s2 : Int32} (h : ¬ se = wa) (h2 : se.toBitVec.toNat ≤ s2.toBitVec.toNat) {n : Nat} (hn : msW se wa < n + 1) : msW s2 se < n := by
  unfold msW at *
  rw [if_neg h] at hn
  have l1 : s2.toBitVec.toNat < 4294967296 := s2.toBitVec.isLt
  split
  · omega
  · have : s2.toBitVec.toNat ≠ se.toBitVec.toNat := fun q => by
      rename_i h3
      exact h3 (by
        have := BitVec.eq_of_toNat_eq q
        exact Int32.toBitVec_inj.mp this)
    omega
def msB (kc km : Int32) : Nat := 2 * (10 - kc.toNatClampNeg) + (if km = 0 then 0 else 1)
theorem msB_dec {kc km kc2 km2 : Int32} (h0 : 0 ≤ kc) (h : ¬ km = 0) (h2 : ¬ 10 ≤ kc) (hk : (km2 = 0 ∧ kc2 = kc) ∨ (¬ km2 = 0 ∧ kc2 = kc + 1)) {n : Nat} (hn : msB kc km < n + 1) : msB kc2 km2 < n := by
  unfold msB at *
  rw [if_neg h] at hn
  rcases hk with ⟨a, b⟩ | ⟨a, b⟩
  · rw [if_pos a, b]
    omega
  · have := cl_s (k := kc) h0 (by grind)
    have h3 := cl_mono (k := kc) (n := 10) h0 (by grind)
    have h4 : (10 : Int32).toNatClampNeg = 10 := rfl
    rw [if_neg a, b, this]
    omega

def okVo (f : Nat → Int32) : Prop := ∀ i : Nat, 0 ≤ f i ∧ f i ≤ 200
theorem okVo_upd {f : Nat → Int32} {v : Int32} {j : Nat} (h : okVo f) (h0 : 0 ≤ v) (h1 : v ≤ 200) : okVo (upd f j v) := by
  intro i
  unfold upd
  split
  · exact ⟨h0, h1⟩
  · exact h i
