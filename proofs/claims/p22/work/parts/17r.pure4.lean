/-! ===== fractions ===== -/
def tn (x : Int64) : Nat := x.toInt.toNat
theorem tn_lt (x : Int64) : tn x < 9223372036854775808 := by
  have := Int64.toInt_lt x
  unfold tn
  omega
theorem tn_N {k : Nat} (h : k < 9223372036854775808) : tn (lN k) = k := by
  unfold tn
  rw [pk_lT h]
  omega
theorem tn_of {x : Int64} (h : 0 ≤ x) : x = lN (tn x) := by
  obtain ⟨k, hk, e⟩ := pk_lOf (x := x) (fun q => absurd (Int64.le_iff_toInt_le.mp h) (by have := Int64.lt_iff_toInt_lt.mp q; omega))
  rw [e, tn_N hk]
theorem lN_nn {k : Nat} (h : k < 9223372036854775808) : 0 ≤ lN k := (pk_lLE (a := 0) (by omega) h).mpr (by omega)
theorem tn_pos {x : Int64} (h : 0 < x) : 0 < tn x := by
  have := Int64.lt_iff_toInt_lt.mp h
  have z : (0 : Int64).toInt = 0 := rfl
  unfold tn
  omega
theorem pos_tn {x : Int64} (h0 : 0 ≤ x) (h : 0 < tn x) : 0 < x := by
  unfold tn at h
  have z : (0 : Int64).toInt = 0 := rfl
  exact Int64.lt_iff_toInt_lt.mpr (by omega)
theorem le_of_ltL {x : Int64} (h : 0 < x) : 0 ≤ x := by
  have := Int64.lt_iff_toInt_lt.mp h
  exact Int64.le_iff_toInt_le.mpr (by omega)
theorem lg0 {x v : Int64} {w : Int32} (e : w = lg_cmp x 0) : w = 0 ↔ x = 0 := by
  subst e
  unfold lg_cmp
  by_cases h1 : (0 : Int64) < x
  · have : x ≠ 0 := fun q => by rw [q] at h1; exact absurd h1 (by decide)
    simp [h1, this]
  · by_cases h2 : x = 0
    · simp [h2]
    · simp [h1, h2]
theorem lgP {x : Int64} {w : Int32} (e : w = lg_cmp x 0) (h : ¬ w ≤ 0) : 0 < x := by
  subst e
  unfold lg_cmp at h
  by_cases h1 : (0 : Int64) < x
  · exact h1
  · by_cases h2 : x = 0
    · simp [h2] at h
    · simp [h1, h2] at h
theorem rem_tn {x y : Int64} (h0 : 0 ≤ x) (h1 : 0 ≤ y) (hne : ¬ y = 0) : 0 ≤ x - x / y * y ∧ tn (x - x / y * y) = tn x % tn y := by
  have ex := tn_of h0
  have ey := tn_of h1
  have hy : 0 < tn y := by
    rcases Nat.eq_zero_or_pos (tn y) with h | h
    · exact absurd (by rw [ey, h]; rfl) hne
    · exact h
  have e := pk_lRem (tn_lt x) hy (tn_lt y)
  rw [← ex, ← ey] at e
  have hl : tn x % tn y < 9223372036854775808 := Nat.lt_of_le_of_lt (Nat.mod_le _ _) (tn_lt x)
  rw [e]
  exact ⟨lN_nn hl, tn_N hl⟩
theorem mul_tn {x y : Int64} (h0 : 0 ≤ x) (h1 : 0 ≤ y) (hb : tn x * tn y < 9223372036854775808) : 0 ≤ x * y ∧ tn (x * y) = tn x * tn y := by
  have e : x * y = lN (tn x * tn y) := by
    rw [← lN_mul, ← tn_of h0, ← tn_of h1]
  rw [e]
  exact ⟨lN_nn hb, tn_N hb⟩
theorem add_tn {x y : Int64} (h0 : 0 ≤ x) (h1 : 0 ≤ y) (hb : tn x + tn y < 9223372036854775808) : 0 ≤ x + y ∧ tn (x + y) = tn x + tn y := by
  have e : x + y = lN (tn x + tn y) := by
    rw [← lN_add, ← tn_of h0, ← tn_of h1]
  rw [e]
  exact ⟨lN_nn hb, tn_N hb⟩
theorem div_tn {x y : Int64} (h0 : 0 ≤ x) (h1 : 0 ≤ y) (hy : 0 < tn y) : 0 ≤ x / y ∧ tn (x / y) = tn x / tn y := by
  have e := pk_lDiv (tn_lt x) hy (tn_lt y)
  rw [← tn_of h0, ← tn_of h1] at e
  have hl : tn x / tn y < 9223372036854775808 := Nat.lt_of_le_of_lt (Nat.div_le_self _ _) (tn_lt x)
  rw [e]
  exact ⟨lN_nn hl, tn_N hl⟩
theorem tn_i {x : Int32} (h : 0 ≤ x) : 0 ≤ x.toInt64 ∧ tn x.toInt64 = x.toNatClampNeg := by
  have a := Int32.le_iff_toInt_le.mp h
  have z : (0 : Int32).toInt = 0 := rfl
  have z2 : (0 : Int64).toInt = 0 := rfl
  constructor
  · exact Int64.le_iff_toInt_le.mpr (by rw [Int32.toInt_toInt64]; omega)
  · unfold tn
    rw [Int32.toInt_toInt64]
    rfl
/-- a reduced sum's lower number divides every common multiple of the two lower numbers -/
theorem low_dvd {U V P Q B : Nat} (hV : 0 < V) (hQ : 0 < Q) (h1 : V ∣ B) (h2 : Q ∣ B) : V * Q / Nat.gcd (V * Q) (U * Q + P * V) ∣ B := by
  have hd1 : Nat.gcd V Q ∣ V * Q := Nat.dvd_trans (Nat.gcd_dvd_left V Q) (Nat.dvd_mul_right V Q)
  have hd2 : Nat.gcd V Q ∣ U * Q + P * V := Nat.dvd_add (Nat.dvd_trans (Nat.gcd_dvd_right V Q) (Nat.dvd_mul_left Q U)) (Nat.dvd_trans (Nat.gcd_dvd_left V Q) (Nat.dvd_mul_left V P))
  have hdg : Nat.gcd V Q ∣ Nat.gcd (V * Q) (U * Q + P * V) := Nat.dvd_gcd hd1 hd2
  obtain ⟨t, ht⟩ := hdg
  obtain ⟨x, hx⟩ := Nat.gcd_dvd_left (V * Q) (U * Q + P * V)
  have hVQ : 0 < V * Q := Nat.mul_pos hV hQ
  have hg : 0 < Nat.gcd (V * Q) (U * Q + P * V) := Nat.gcd_pos_of_pos_left _ hVQ
  have e1 : V * Q / Nat.gcd (V * Q) (U * Q + P * V) = x := by
    conv => lhs; arg 1; rw [hx]
    exact Nat.mul_div_cancel_left x hg
  have hl : Nat.gcd V Q * Nat.lcm V Q = V * Q := Nat.gcd_mul_lcm V Q
  have hgp : 0 < Nat.gcd V Q := Nat.gcd_pos_of_pos_left _ hV
  have e2 : Nat.lcm V Q = t * x := by
    apply Nat.eq_of_mul_eq_mul_left hgp
    rw [hl, hx, ht, Nat.mul_assoc]
  rw [e1]
  exact Nat.dvd_trans (Nat.dvd_trans (Nat.dvd_mul_left x t) (by rw [← e2]; exact Nat.dvd_refl _)) (Nat.lcm_dvd h1 h2)
theorem up_le {N M K g : Nat} (hg : 0 < g) (h : N ≤ M * K) (hd : g ∣ M) : N / g ≤ M / g * K := by
  obtain ⟨x, rfl⟩ := hd
  rw [Nat.mul_div_cancel_left x hg]
  apply Nat.div_le_of_le_mul
  rw [← Nat.mul_assoc]
  exact h
