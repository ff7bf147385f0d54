def alS (fw : Nat → Int32) (bw : Int32) (fd fh : Nat → Int32) (pts : Int32) (uk uf uw : Nat → Int32) (day fl : Int32) : Nat → Int64
  | 0 => 0
  | k + 1 => if uk k = 0 ∧ (fl - uf k = 1 ∨ fl - uf k = 2) ∧ ¬ bSt (uw k) day = 0 then alS fw bw fd fh pts uk uf uw day fl k + (hrd fw bw fd fh pts (uw k) day).toInt64 else alS fw bw fd fh pts uk uf uw day fl k
theorem alS_s {fw : Nat → Int32} {bw : Int32} {fd fh : Nat → Int32} {pts : Int32} {uk uf uw : Nat → Int32} {day fl k v : Int32} (h0 : 0 ≤ k) (h1 : k < 1000) (e : v = k + 1) : alS fw bw fd fh pts uk uf uw day fl v.toNatClampNeg = if uk k.toNatClampNeg = 0 ∧ (fl - uf k.toNatClampNeg = 1 ∨ fl - uf k.toNatClampNeg = 2) ∧ ¬ bSt (uw k.toNatClampNeg) day = 0 then alS fw bw fd fh pts uk uf uw day fl k.toNatClampNeg + (hrd fw bw fd fh pts (uw k.toNatClampNeg) day).toInt64 else alS fw bw fd fh pts uk uf uw day fl k.toNatClampNeg := by
  rw [e, cl_s h0 h1]
  rfl
theorem alS_b {fw : Nat → Int32} {bw : Int32} {fd fh : Nat → Int32} {pts : Int32} {uk uf uw : Nat → Int32} {day fl : Int32} (hw : okWm fw) (hb0 : 0 ≤ bw) (hb1 : bw ≤ 20) (hd : okDeg fd pts) (ht : okTh fh pts) (h40 : day ≤ 40) : ∀ k : Nat, k ≤ 10 → 0 ≤ alS fw bw fd fh pts uk uf uw day fl k ∧ tn (alS fw bw fd fh pts uk uf uw day fl k) ≤ 1000 * k
  | 0, _ => by
    show (0 : Int64) ≤ 0 ∧ tn 0 ≤ 1000 * 0
    decide
  | k + 1, hk => by
    have ih := alS_b hw hb0 hb1 hd ht h40 (uk := uk) (uf := uf) (uw := uw) (fl := fl) k (by omega)
    have b1 := hrd_b hw hb0 hb1 hd ht h40 (po := uw k)
    have c1 := tn_i b1.1
    have c2 := cl_le (n := hrd fw bw fd fh pts (uw k) day) (M := 1000) (k := 1000) rfl b1.2
    show 0 ≤ (if uk k = 0 ∧ (fl - uf k = 1 ∨ fl - uf k = 2) ∧ ¬ bSt (uw k) day = 0 then alS fw bw fd fh pts uk uf uw day fl k + (hrd fw bw fd fh pts (uw k) day).toInt64 else alS fw bw fd fh pts uk uf uw day fl k) ∧ tn (if uk k = 0 ∧ (fl - uf k = 1 ∨ fl - uf k = 2) ∧ ¬ bSt (uw k) day = 0 then alS fw bw fd fh pts uk uf uw day fl k + (hrd fw bw fd fh pts (uw k) day).toInt64 else alS fw bw fd fh pts uk uf uw day fl k) ≤ 1000 * (k + 1)
    split
    · have a1 := add_tn ih.1 c1.1 (by rw [c1.2]; omega)
      rw [a1.2, c1.2]
      exact ⟨a1.1, by omega⟩
    · exact ⟨ih.1, by omega⟩
def bB (fw : Nat → Int32) (bw : Int32) (fd fh : Nat → Int32) (pts : Int32) (uk uf uw : Nat → Int32) (day fl : Int32) (n : Nat) : Nat := max 1 (tn (alS fw bw fd fh pts uk uf uw day fl n))
theorem bB_b {fw : Nat → Int32} {bw : Int32} {fd fh : Nat → Int32} {pts : Int32} {uk uf uw : Nat → Int32} {day fl : Int32} (hw : okWm fw) (hb0 : 0 ≤ bw) (hb1 : bw ≤ 20) (hd : okDeg fd pts) (ht : okTh fh pts) (h40 : day ≤ 40) {k : Nat} (hk : k ≤ 10) : 0 < bB fw bw fd fh pts uk uf uw day fl k ∧ bB fw bw fd fh pts uk uf uw day fl k ≤ 10000 := by
  have := alS_b hw hb0 hb1 hd ht h40 (uk := uk) (uf := uf) (uw := uw) (fl := fl) k hk
  unfold bB
  omega
theorem bB_eq {fw : Nat → Int32} {bw : Int32} {fd fh : Nat → Int32} {pts : Int32} {uk uf uw : Nat → Int32} {day fl : Int32} {n : Nat} (h : 0 < tn (alS fw bw fd fh pts uk uf uw day fl n)) : tn (alS fw bw fd fh pts uk uf uw day fl n) = bB fw bw fd fh pts uk uf uw day fl n := by
  unfold bB
  omega
theorem xa_b {v r : Int32} (h : 0 ≤ v ∧ v ≤ 200) (h2 : 0 ≤ r ∧ r ≤ 1000) : 0 ≤ v.toInt64 * r.toInt64 ∧ tn (v.toInt64 * r.toInt64) ≤ 200000 := by
  have a1 := tn_i h.1
  have a2 := tn_i h2.1
  have b1 := cl_le (n := v) (M := 200) (k := 200) rfl h.2
  have b2 := cl_le (n := r) (M := 1000) (k := 1000) rfl h2.2
  have b3 := Nat.mul_le_mul b1 b2
  have m1 := mul_tn a1.1 a2.1 (by rw [a1.2, a2.2]; omega)
  rw [m1.2, a1.2, a2.2]
  exact ⟨m1.1, b3⟩
def okF (a l : Int64) (B k : Nat) : Prop := 0 ≤ a ∧ 0 < l ∧ tn l ∣ B ∧ tn a ≤ tn l * (200 + 200000 * k)
theorem okF_s {a l : Int64} {B k k2 : Nat} (h : okF a l B k) (hk : k ≤ k2) : okF a l B k2 := ⟨h.1, h.2.1, h.2.2.1, Nat.le_trans h.2.2.2 (Nat.mul_le_mul_left _ (by omega))⟩
theorem okF_0 {v : Int32} {B : Nat} (h0 : 0 ≤ v) (h1 : v ≤ 200) : okF v.toInt64 1 B 0 := by
  have c1 := tn_i h0
  have c2 := cl_le (n := v) (M := 200) (k := 200) rfl h1
  have o : tn (1 : Int64) = 1 := rfl
  refine ⟨c1.1, by decide, by rw [o]; exact Nat.one_dvd _, by rw [o, c1.2]; omega⟩
theorem okF_pre {a l xa xb : Int64} {B k : Nat} (h : okF a l B k) (hB : 0 < B) (hB1 : B ≤ 100000000) (hk : k ≤ 10) (hxa : tn xa ≤ 200000) (hxb : tn xb ≤ 10000) : tn a * tn xb + tn xa * tn l < 9223372036854775808 ∧ tn l * tn xb < 9223372036854775808 := by
  have hl : tn l ≤ 100000000 := Nat.le_trans (Nat.le_of_dvd hB h.2.2.1) hB1
  have ha : tn a ≤ 100000000 * 2000200 := Nat.le_trans h.2.2.2 (Nat.mul_le_mul hl (by omega))
  have m1 : tn a * tn xb ≤ (100000000 * 2000200) * 10000 := Nat.mul_le_mul ha hxb
  have m2 : tn xa * tn l ≤ 200000 * 100000000 := Nat.mul_le_mul hxa hl
  have m3 : tn l * tn xb ≤ 100000000 * 10000 := Nat.mul_le_mul hl hxb
  constructor <;> omega
theorem okF_add {a l xa xb a2 l2 : Int64} {B k : Nat} (h : okF a l B k) (hd : tn xb ∣ B) (hxb : 0 < xb) (hxa : tn xa ≤ 200000) (h0 : 0 ≤ a2) (h1 : 0 < l2) (e1 : tn a2 = (tn a * tn xb + tn xa * tn l) / Nat.gcd (tn l * tn xb) (tn a * tn xb + tn xa * tn l)) (e2 : tn l2 = (tn l * tn xb) / Nat.gcd (tn l * tn xb) (tn a * tn xb + tn xa * tn l)) : okF a2 l2 B (k + 1) := by
  have hl := tn_pos h.2.1
  have hq := tn_pos hxb
  refine ⟨h0, h1, ?_, ?_⟩
  · rw [e2]
    exact low_dvd hl hq h.2.2.1 hd
  · rw [e1, e2]
    refine up_le (Nat.gcd_pos_of_pos_left _ (Nat.mul_pos hl hq)) ?_ (Nat.gcd_dvd_left _ _)
    have m1 : tn a * tn xb ≤ tn l * (200 + 200000 * k) * tn xb := Nat.mul_le_mul_right _ h.2.2.2
    have m2 : tn xa * tn l ≤ 200000 * tn l := Nat.mul_le_mul_right _ hxa
    have m3 : 200000 * tn l ≤ tn l * tn xb * 200000 := by
      rw [Nat.mul_comm 200000 (tn l)]
      exact Nat.mul_le_mul_right _ (Nat.le_mul_of_pos_right _ hq)
    have e3 : tn l * tn xb * (200 + 200000 * (k + 1)) = tn l * (200 + 200000 * k) * tn xb + tn l * tn xb * 200000 := by
      rw [show 200 + 200000 * (k + 1) = (200 + 200000 * k) + 200000 by omega, Nat.mul_add, Nat.mul_assoc (tn l) (tn xb), Nat.mul_comm (tn xb) (200 + 200000 * k), ← Nat.mul_assoc]
    omega
