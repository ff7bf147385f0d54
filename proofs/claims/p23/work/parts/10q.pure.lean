/-! ===== loads: sums and fractions ===== -/
def hbN (η : Int32 → Int32 → Int32) (uk uf w : Nat → Int32) (day fl : Int32) : Nat → Nat
  | 0 => 0
  | k + 1 => if uk k = 0 ∧ (fl - uf k = 1 ∨ fl - uf k = 2) ∧ ¬ bSt (w k) day = 0 then hbN η uk uf w day fl k + (η (w k) day).toNatClampNeg else hbN η uk uf w day fl k
theorem hbN_s {η : Int32 → Int32 → Int32} {uk uf w : Nat → Int32} {day fl k v : Int32} (h0 : 0 ≤ k) (h1 : k < 1000) (e : v = k + 1) : hbN η uk uf w day fl v.toNatClampNeg = if uk k.toNatClampNeg = 0 ∧ (fl - uf k.toNatClampNeg = 1 ∨ fl - uf k.toNatClampNeg = 2) ∧ ¬ bSt (w k.toNatClampNeg) day = 0 then hbN η uk uf w day fl k.toNatClampNeg + (η (w k.toNatClampNeg) day).toNatClampNeg else hbN η uk uf w day fl k.toNatClampNeg := by
  rw [e, cl_s h0 h1]
  rfl
theorem hbN_b {η : Int32 → Int32 → Int32} {uk uf w : Nat → Int32} {day fl : Int32} (h : ∀ i : Nat, ¬ bSt (w i) day = 0 → η (w i) day ≤ 1000) : ∀ k, hbN η uk uf w day fl k ≤ 1000 * k
  | 0 => Nat.le_refl _
  | k + 1 => by
    have ih := hbN_b (η := η) (uk := uk) (uf := uf) (fl := fl) h k
    show (if uk k = 0 ∧ (fl - uf k = 1 ∨ fl - uf k = 2) ∧ ¬ bSt (w k) day = 0 then hbN η uk uf w day fl k + (η (w k) day).toNatClampNeg else hbN η uk uf w day fl k) ≤ 1000 * (k + 1)
    split
    · rename_i q
      have := cl_le (n := η (w k) day) (M := 1000) (k := 1000) rfl (h k q.2.2)
      omega
    · omega
theorem hbN_eq {η θ : Int32 → Int32 → Int32} {uk uf w vk vf v : Nat → Int32} {day fl : Int32} : ∀ n, (∀ i, i < n → uk i = vk i ∧ uf i = vf i ∧ w i = v i ∧ (¬ bSt (w i) day = 0 → η (w i) day = θ (v i) day)) → hbN η uk uf w day fl n = hbN θ vk vf v day fl n
  | 0, _ => rfl
  | n + 1, h => by
    have ih := hbN_eq (day := day) (fl := fl) n (fun i hi => h i (by omega))
    obtain ⟨a, b, c, d⟩ := h n (by omega)
    show (if uk n = 0 ∧ (fl - uf n = 1 ∨ fl - uf n = 2) ∧ ¬ bSt (w n) day = 0 then hbN η uk uf w day fl n + (η (w n) day).toNatClampNeg else hbN η uk uf w day fl n) = (if vk n = 0 ∧ (fl - vf n = 1 ∨ fl - vf n = 2) ∧ ¬ bSt (v n) day = 0 then hbN θ vk vf v day fl n + (θ (v n) day).toNatClampNeg else hbN θ vk vf v day fl n)
    rw [← ih, ← a, ← b, ← c]
    by_cases q : uk n = 0 ∧ (fl - uf n = 1 ∨ fl - uf n = 2) ∧ ¬ bSt (w n) day = 0
    · rw [if_pos q, if_pos q, d q.2.2, ← c]
    · rw [if_neg q, if_neg q]
def ldN (σ : Int32 → Int32) (uk uf uv w : Nat → Int32) (day fl : Int32) : Nat → Nat
  | 0 => 0
  | k + 1 => if uf k = fl ∧ uk k = 0 ∧ hlB σ w day k = true then ldN σ uk uf uv w day fl k + (uv k).toNatClampNeg else ldN σ uk uf uv w day fl k
theorem ldN_s {σ : Int32 → Int32} {uk uf uv w : Nat → Int32} {day fl k v : Int32} (h0 : 0 ≤ k) (h1 : k < 1000) (e : v = k + 1) : ldN σ uk uf uv w day fl v.toNatClampNeg = if uf k.toNatClampNeg = fl ∧ uk k.toNatClampNeg = 0 ∧ hlB σ w day k.toNatClampNeg = true then ldN σ uk uf uv w day fl k.toNatClampNeg + (uv k.toNatClampNeg).toNatClampNeg else ldN σ uk uf uv w day fl k.toNatClampNeg := by
  rw [e, cl_s h0 h1]
  rfl
theorem ldN_b {σ : Int32 → Int32} {uk uf uv w : Nat → Int32} {day fl : Int32} {n : Nat} (h : ∀ i : Nat, i < n → uv i ≤ 200) : ∀ k, k ≤ n → ldN σ uk uf uv w day fl k ≤ 200 * k
  | 0, _ => Nat.le_refl _
  | k + 1, hk => by
    have ih := ldN_b (σ := σ) (uk := uk) (uf := uf) (w := w) (day := day) (fl := fl) h k (by omega)
    have := cl_le (n := uv k) (M := 200) (k := 200) rfl (h k (by omega))
    show (if uf k = fl ∧ uk k = 0 ∧ hlB σ w day k = true then ldN σ uk uf uv w day fl k + (uv k).toNatClampNeg else ldN σ uk uf uv w day fl k) ≤ 200 * (k + 1)
    split <;> omega
theorem ldN_eq {σ τ : Int32 → Int32} {uk uf uv w vk vf vv v : Nat → Int32} {day fl : Int32} : ∀ n, (∀ i, i < n → uk i = vk i ∧ uf i = vf i ∧ uv i = vv i ∧ w i = v i ∧ σ (w i) = τ (v i)) → ldN σ uk uf uv w day fl n = ldN τ vk vf vv v day fl n
  | 0, _ => rfl
  | n + 1, h => by
    have ih := ldN_eq (day := day) (fl := fl) n (fun i hi => h i (by omega))
    obtain ⟨a, b, c, d, e⟩ := h n (by omega)
    have hh : hlB σ w day n = hlB τ v day n := by
      unfold hlB
      rw [e, d]
    show (if uf n = fl ∧ uk n = 0 ∧ hlB σ w day n = true then ldN σ uk uf uv w day fl n + (uv n).toNatClampNeg else ldN σ uk uf uv w day fl n) = (if vf n = fl ∧ vk n = 0 ∧ hlB τ v day n = true then ldN τ vk vf vv v day fl n + (vv n).toNatClampNeg else ldN τ vk vf vv v day fl n)
    rw [ih, a, b, c, hh]
def tP (T : Nat) : Nat := if 0 < T then T else 1
def lP (T L : Nat) : Nat := if 0 < T then L else 0
theorem tP_p {T : Nat} (h : 0 < T) : tP T = T := if_pos h
theorem tP_z {T : Nat} (h : T = 0) : tP T = 1 := if_neg (by omega)
theorem lP_p {T L : Nat} (h : 0 < T) : lP T L = L := if_pos h
theorem lP_z {T L : Nat} (h : T = 0) : lP T L = 0 := if_neg (by omega)
theorem tP_0 (T : Nat) : 0 < tP T := by
  unfold tP
  split <;> omega
def brD (T1 T2 : Nat) : Nat := tP T1 * tP T2
def brA (v h T1 L1 T2 L2 : Nat) : Nat := (v * tP T1 + lP T1 L1 * h) * tP T2 + tP T1 * (lP T2 L2 * h)
theorem brD_0 (T1 T2 : Nat) : 0 < brD T1 T2 := Nat.mul_pos (tP_0 _) (tP_0 _)
/-! the class's loop over two floors -/
def brI (v h T1 L1 T2 L2 : Nat) (ku : Int32) (a b : Nat) : Prop := (ku = 1 ∧ a = v ∧ b = 1) ∨ (ku = 2 ∧ a = v * tP T1 + lP T1 L1 * h ∧ b = tP T1) ∨ (ku = 3 ∧ a = brA v h T1 L1 T2 L2 ∧ b = brD T1 T2)
theorem tP_b {T B : Nat} (h : T ≤ B) (h1 : 1 ≤ B) : tP T ≤ B := by
  unfold tP
  split <;> omega
theorem lP_b {T L B : Nat} (h : L ≤ B) : lP T L ≤ B := by
  unfold lP
  split <;> omega
theorem brI_b {v h T1 L1 T2 L2 a b : Nat} {ku : Int32} (hI : brI v h T1 L1 T2 L2 ku a b) (hk : ku ≤ 2) (hv : v ≤ 200) (hh : h ≤ 1000) (h1 : T1 ≤ 10000) (l1 : L1 ≤ 2000) : a ≤ 10000000 ∧ b ≤ 10000 ∧ 0 < b := by
  have t1 := tP_b h1 (by omega)
  have m1 := lP_b (T := T1) l1
  rcases hI with ⟨_, e1, e2⟩ | ⟨_, e1, e2⟩ | ⟨e, _⟩
  · omega
  · have x1 : v * tP T1 ≤ 200 * 10000 := Nat.mul_le_mul hv t1
    have x2 : lP T1 L1 * h ≤ 2000 * 1000 := Nat.mul_le_mul m1 hh
    have x3 := tP_0 T1
    omega
  · rw [e] at hk
    exact absurd hk (by decide)
theorem brI_n {v h T1 L1 T2 L2 a b T : Nat} {ku k2 : Int32} (hI : brI v h T1 L1 T2 L2 ku a b) (hk : ku ≤ 2) (e : k2 = ku + 1) (hT : T = if ku = 1 then T1 else T2) (hz : T = 0) : brI v h T1 L1 T2 L2 k2 a b := by
  rcases hI with ⟨e0, e1, e2⟩ | ⟨e0, e1, e2⟩ | ⟨e0, _⟩
  · rw [if_pos e0] at hT
    have z : T1 = 0 := by omega
    refine Or.inr (Or.inl ⟨by rw [e, e0]; decide, ?_, ?_⟩)
    · rw [tP_z z, lP_z z, e1]
      omega
    · rw [tP_z z, e2]
  · rw [if_neg (by rw [e0]; decide)] at hT
    have z : T2 = 0 := by omega
    refine Or.inr (Or.inr ⟨by rw [e, e0]; decide, ?_, ?_⟩)
    · unfold brA
      rw [tP_z z, lP_z z, e1, Nat.zero_mul, Nat.mul_zero, Nat.mul_one, Nat.add_zero]
    · unfold brD
      rw [tP_z z, e2, Nat.mul_one]
  · rw [e0] at hk
    exact absurd hk (by decide)
theorem brI_y {v h T1 L1 T2 L2 a b T L a2 b2 : Nat} {ku k2 : Int32} (hI : brI v h T1 L1 T2 L2 ku a b) (hk : ku ≤ 2) (e : k2 = ku + 1) (hT : T = if ku = 1 then T1 else T2) (hL : L = if ku = 1 then L1 else L2) (hz : 0 < T) (ea : a2 = a * T + b * L * h) (eb : b2 = b * T) : brI v h T1 L1 T2 L2 k2 a2 b2 := by
  rcases hI with ⟨e0, e1, e2⟩ | ⟨e0, e1, e2⟩ | ⟨e0, _⟩
  · rw [if_pos e0] at hT hL
    rw [hT] at hz
    refine Or.inr (Or.inl ⟨by rw [e, e0]; decide, ?_, ?_⟩)
    · rw [tP_p hz, lP_p hz, ea, e1, e2, hT, hL, Nat.one_mul]
    · rw [tP_p hz, eb, e2, hT, Nat.one_mul]
  · rw [if_neg (by rw [e0]; decide)] at hT hL
    rw [hT] at hz
    refine Or.inr (Or.inr ⟨by rw [e, e0]; decide, ?_, ?_⟩)
    · unfold brA
      rw [tP_p hz, lP_p hz, ea, e1, e2, hT, hL, Nat.mul_assoc]
    · unfold brD
      rw [tP_p hz, eb, e2, hT]
  · rw [e0] at hk
    exact absurd hk (by decide)
theorem brI_e {v h T1 L1 T2 L2 a b : Nat} {ku : Int32} (hI : brI v h T1 L1 T2 L2 ku a b) (hk : ¬ ku ≤ 2) : a = brA v h T1 L1 T2 L2 ∧ b = brD T1 T2 := by
  rcases hI with ⟨e0, _⟩ | ⟨e0, _⟩ | ⟨_, e1, e2⟩
  · rw [e0] at hk
    exact absurd (by decide) hk
  · rw [e0] at hk
    exact absurd (by decide) hk
  · exact ⟨e1, e2⟩
theorem brA_b {v h T1 L1 T2 L2 : Nat} (hv : v ≤ 200) (hh : h ≤ 1000) (h1 : T1 ≤ 10000) (l1 : L1 ≤ 2000) (h2 : T2 ≤ 10000) (l2 : L2 ≤ 2000) : brA v h T1 L1 T2 L2 < 9223372036854775808 := by
  have t1 := tP_b h1 (by omega)
  have t2 := tP_b h2 (by omega)
  have m1 := lP_b (T := T1) l1
  have m2 := lP_b (T := T2) l2
  have x1 : v * tP T1 ≤ 200 * 10000 := Nat.mul_le_mul hv t1
  have x2 : lP T1 L1 * h ≤ 2000 * 1000 := Nat.mul_le_mul m1 hh
  have x3 : lP T2 L2 * h ≤ 2000 * 1000 := Nat.mul_le_mul m2 hh
  have x4 : (v * tP T1 + lP T1 L1 * h) * tP T2 ≤ (200 * 10000 + 2000 * 1000) * 10000 := Nat.mul_le_mul (by omega) t2
  have x5 : tP T1 * (lP T2 L2 * h) ≤ 10000 * (2000 * 1000) := Nat.mul_le_mul t1 x3
  unfold brA
  omega
theorem pick {F : Int32 → Nat} {ku f x : Int32} (h : ku = 1 ∨ ku = 2) (e : f = x + ku) : F f = if ku = 1 then F (x + 1) else F (x + 2) := by
  rcases h with h | h
  · rw [if_pos h, e, h]
  · rw [if_neg (by rw [h]; decide), e, h]
/-! one step of the class in 64 bits -/
theorem br_y {kA kB tg ld m1 m2 m3 A2 B2 hl : Int64} {hd : Int32} (hA : 0 ≤ kA) (hB : 0 < kB) (bA : tn kA ≤ 10000000) (bB : tn kB ≤ 10000) (h0 : 0 ≤ tg) (bT : tn tg ≤ 10000) (hp : 0 < tn tg) (g0 : 0 ≤ ld) (bL : tn ld ≤ 2000) (d0 : 0 ≤ hd) (d1 : hd ≤ 1000) (e1 : m1 = kA * tg) (e2 : m2 = kB * ld) (eh : hl = hd.toInt64) (e3 : m3 = m2 * hl) (e4 : A2 = m1 + m3) (e5 : B2 = kB * tg) : 0 ≤ A2 ∧ 0 < B2 ∧ tn A2 = tn kA * tn tg + tn kB * tn ld * hd.toNatClampNeg ∧ tn B2 = tn kB * tn tg := by
  have c1 := tn_i d0
  have c2 := cl_le (n := hd) (M := 1000) (k := 1000) rfl d1
  have x1 : tn kA * tn tg ≤ 10000000 * 10000 := Nat.mul_le_mul bA bT
  have x2 : tn kB * tn ld ≤ 10000 * 2000 := Nat.mul_le_mul bB bL
  have x3 : tn kB * tn ld * hd.toNatClampNeg ≤ 10000 * 2000 * 1000 := Nat.mul_le_mul x2 c2
  have x4 : tn kB * tn tg ≤ 10000 * 10000 := Nat.mul_le_mul bB bT
  have y1 := mul_tn hA h0 (by omega)
  have y2 := mul_tn (le_of_ltL hB) g0 (by omega)
  have y3 := mul_tn y2.1 c1.1 (by rw [y2.2, c1.2]; omega)
  have y4 := add_tn y1.1 y3.1 (by rw [y1.2, y3.2, y2.2, c1.2]; omega)
  have y5 := mul_tn (le_of_ltL hB) h0 (by omega)
  subst e1 e2 eh e3 e4 e5
  refine ⟨y4.1, pos_tn y5.1 ?_, ?_, y5.2⟩
  · rw [y5.2]
    exact Nat.mul_pos (tn_pos hB) hp
  · rw [y4.2, y1.2, y3.2, y2.2, c1.2]
/-! Euclid's way in at most 200 steps -/
def euI (x y k : Nat) : Prop := k = 0 ∨ (y ≤ x ∧ 0 < x ∧ x * y * 2 ^ (k - 1) < 2 ^ 126)
theorem eu_s {x y k : Nat} (h : euI x y k) (hy : 0 < y) (hx : x < 9223372036854775808) (hy2 : y < 9223372036854775808) : euI y (x % y) (k + 1) := by
  have hm := Nat.mod_lt x hy
  refine Or.inr ⟨by omega, hy, ?_⟩
  rcases h with h | ⟨h1, h2, h3⟩
  · subst h
    have : y * (x % y) < 9223372036854775808 * 9223372036854775808 := Nat.mul_lt_mul_of_lt_of_le hy2 (by omega) (by omega)
    show y * (x % y) * 2 ^ (0 + 1 - 1) < 2 ^ 126
    omega
  · have h4 : 2 * (x % y) ≤ x := by
      have e := Nat.div_add_mod x y
      have q : 1 ≤ x / y := (Nat.one_le_div_iff hy).mpr h1
      have q2 : y * 1 ≤ y * (x / y) := Nat.mul_le_mul_left y q
      omega
    cases k with
    | zero =>
      have : y * (x % y) < 9223372036854775808 * 9223372036854775808 := Nat.mul_lt_mul_of_lt_of_le hy2 (by omega) (by omega)
      show y * (x % y) * 2 ^ (0 + 1 - 1) < 2 ^ 126
      omega
    | succ k =>
      have e : y * (x % y) * 2 ^ (k + 1 + 1 - 1) = y * (2 * (x % y)) * 2 ^ (k + 1 - 1) := by
        rw [show k + 1 + 1 - 1 = k + 1 by omega, show k + 1 - 1 = k by omega, Nat.pow_succ, Nat.mul_comm (2 ^ k) 2, ← Nat.mul_assoc, Nat.mul_assoc y (x % y) 2, Nat.mul_comm (x % y) 2]
      rw [e]
      refine Nat.lt_of_le_of_lt (Nat.mul_le_mul_right _ ?_) h3
      rw [Nat.mul_comm x y]
      exact Nat.mul_le_mul_left y h4
theorem eu_e {x y : Nat} (h : euI x y 200) : y = 0 := by
  rcases h with h | ⟨h1, h2, h3⟩
  · omega
  · rcases Nat.eq_zero_or_pos y with q | q
    · exact q
    · have h4 : 1 * 2 ^ (200 - 1) ≤ x * y * 2 ^ (200 - 1) := Nat.mul_le_mul_right _ (Nat.mul_pos h2 q)
      exact absurd (Nat.lt_of_le_of_lt h4 h3) (by decide)
/-! reduced fractions are the same -/
theorem red_eq {a l A B : Nat} (hg : Nat.gcd a l = 1) (hl : 0 < l) (hB : 0 < B) (h : a * B = l * A) : A / Nat.gcd A B = a ∧ B / Nat.gcd A B = l := by
  have hc : Nat.Coprime l a := by
    show Nat.gcd l a = 1
    rw [Nat.gcd_comm]
    exact hg
  have hd : l ∣ a * B := ⟨A, h⟩
  obtain ⟨t, ht⟩ := hc.dvd_of_dvd_mul_left hd
  have ht0 : 0 < t := by
    rcases Nat.eq_zero_or_pos t with q | q
    · rw [q, Nat.mul_zero] at ht
      omega
    · exact q
  have hA : A = a * t := by
    apply Nat.eq_of_mul_eq_mul_left hl
    rw [← h, ht, ← Nat.mul_assoc, ← Nat.mul_assoc, Nat.mul_comm a l]
  have hgt : Nat.gcd A B = t := by
    rw [hA, ht, Nat.gcd_mul_right, hg, Nat.one_mul]
  rw [hgt, hA, ht]
  exact ⟨Nat.mul_div_cancel a ht0, Nat.mul_div_cancel l ht0⟩
/-! the reference's fraction -/
def brJ (v h T1 T2 L1 L2 a l : Nat) : Prop := a * brD T1 T2 = l * brA v h T1 L1 T2 L2 ∧ Nat.gcd a l = 1
theorem brJ_0 {v h T1 T2 : Nat} : brJ v h T1 T2 0 0 v 1 := by
  have z1 : lP T1 0 = 0 := by
    unfold lP
    split <;> rfl
  have z2 : lP T2 0 = 0 := by
    unfold lP
    split <;> rfl
  refine ⟨?_, Nat.gcd_one_right v⟩
  unfold brD brA
  rw [z1, z2, Nat.zero_mul, Nat.mul_zero, Nat.add_zero, Nat.add_zero, Nat.one_mul, Nat.mul_assoc]
theorem brJ_n {v h T1 T2 L1 L2 M1 M2 a l : Nat} (hJ : brJ v h T1 T2 L1 L2 a l) (h1 : M1 = L1 ∨ T1 = 0) (h2 : M2 = L2 ∨ T2 = 0) : brJ v h T1 T2 M1 M2 a l := by
  have e1 : lP T1 M1 = lP T1 L1 := by
    rcases h1 with q | q
    · rw [q]
    · rw [lP_z q, lP_z q]
  have e2 : lP T2 M2 = lP T2 L2 := by
    rcases h2 with q | q
    · rw [q]
    · rw [lP_z q, lP_z q]
  refine ⟨?_, hJ.2⟩
  have := hJ.1
  unfold brA at this ⊢
  rw [e1, e2]
  exact this
theorem fr_add {a l xa xb D N N2 a2 l2 : Nat} (hl : 0 < l) (hb : 0 < xb) (h : a * D = l * N) (hN : xb * (N2 - N) = xa * D) (hle : N ≤ N2) (e1 : a2 = (a * xb + xa * l) / Nat.gcd (l * xb) (a * xb + xa * l)) (e2 : l2 = (l * xb) / Nat.gcd (l * xb) (a * xb + xa * l)) : a2 * D = l2 * N2 ∧ Nat.gcd a2 l2 = 1 := by
  have hg : 0 < Nat.gcd (l * xb) (a * xb + xa * l) := Nat.gcd_pos_of_pos_left _ (Nat.mul_pos hl hb)
  obtain ⟨x, hx⟩ := Nat.gcd_dvd_left (l * xb) (a * xb + xa * l)
  obtain ⟨y, hy⟩ := Nat.gcd_dvd_right (l * xb) (a * xb + xa * l)
  have hc := Nat.coprime_div_gcd_div_gcd (m := l * xb) (n := a * xb + xa * l) hg
  have ey : a2 = y := by
    rw [e1]
    conv => lhs; arg 1; rw [hy]
    exact Nat.mul_div_cancel_left y hg
  have ex : l2 = x := by
    rw [e2]
    conv => lhs; arg 1; rw [hx]
    exact Nat.mul_div_cancel_left x hg
  constructor
  · rw [ey, ex]
    apply Nat.eq_of_mul_eq_mul_left hg
    rw [← Nat.mul_assoc, ← Nat.mul_assoc, ← hy, ← hx]
    have e3 : N2 = N + (N2 - N) := by omega
    rw [e3, Nat.add_mul, Nat.mul_add]
    have f1 : a * xb * D = l * xb * N := by
      rw [Nat.mul_right_comm, h, Nat.mul_right_comm]
    have f2 : xa * l * D = l * xb * (N2 - N) := by
      rw [Nat.mul_assoc l xb, hN, Nat.mul_comm xa l, Nat.mul_assoc]
    rw [f1, f2]
  · rw [e1, e2, Nat.gcd_comm]
    exact hc
theorem brJ_1 {v h T1 T2 L1 L2 M1 a l vo xa a2 l2 : Nat} (hJ : brJ v h T1 T2 L1 L2 a l) (hl : 0 < l) (hT : 0 < T1) (hM : M1 = L1 + vo) (hx : xa = vo * h) (e1 : a2 = (a * T1 + xa * l) / Nat.gcd (l * T1) (a * T1 + xa * l)) (e2 : l2 = (l * T1) / Nat.gcd (l * T1) (a * T1 + xa * l)) : brJ v h T1 T2 M1 L2 a2 l2 := by
  have ed : brA v h T1 M1 T2 L2 = brA v h T1 L1 T2 L2 + vo * h * tP T2 := by
    unfold brA
    rw [lP_p hT, lP_p hT, hM]
    grind
  refine fr_add (xa := xa) (xb := T1) hl hT hJ.1 ?_ (by omega) e1 e2
  rw [ed, Nat.add_sub_cancel_left, hx]
  unfold brD
  rw [tP_p hT]
  grind
theorem brJ_2 {v h T1 T2 L1 L2 M2 a l vo xa a2 l2 : Nat} (hJ : brJ v h T1 T2 L1 L2 a l) (hl : 0 < l) (hT : 0 < T2) (hM : M2 = L2 + vo) (hx : xa = vo * h) (e1 : a2 = (a * T2 + xa * l) / Nat.gcd (l * T2) (a * T2 + xa * l)) (e2 : l2 = (l * T2) / Nat.gcd (l * T2) (a * T2 + xa * l)) : brJ v h T1 T2 L1 M2 a2 l2 := by
  have ed : brA v h T1 L1 T2 M2 = brA v h T1 L1 T2 L2 + tP T1 * (vo * h) := by
    unfold brA
    rw [lP_p hT, lP_p hT, hM]
    grind
  refine fr_add (xa := xa) (xb := T2) hl hT hJ.1 ?_ (by omega) e1 e2
  rw [ed, Nat.add_sub_cancel_left, hx]
  unfold brD
  rw [tP_p hT]
  grind
def brAN (η : Int32 → Int32 → Int32) (σ : Int32 → Int32) (uk uf uv w : Nat → Int32) (a day : Int32) (n : Nat) : Nat := brA (uv a.toNatClampNeg).toNatClampNeg (η (w a.toNatClampNeg) day).toNatClampNeg (hbN η uk uf w day (uf a.toNatClampNeg + 1) n) (ldN σ uk uf uv w day (uf a.toNatClampNeg + 1) n) (hbN η uk uf w day (uf a.toNatClampNeg + 2) n) (ldN σ uk uf uv w day (uf a.toNatClampNeg + 2) n)
def brBN (η : Int32 → Int32 → Int32) (uk uf w : Nat → Int32) (a day : Int32) (n : Nat) : Nat := brD (hbN η uk uf w day (uf a.toNatClampNeg + 1) n) (hbN η uk uf w day (uf a.toNatClampNeg + 2) n)
def brB (uk w : Nat → Int32) (n a day pa : Int32) : Prop := a < 0 ∨ n ≤ a ∨ day < 0 ∨ 39 < day ∨ pa < 0 ∨ 1 < pa ∨ ¬ uk a.toNatClampNeg = 0 ∨ bSt (w a.toNatClampNeg) day = 0
theorem hon_b {fw fd fh fg : Nat → Int32} {bw pts d day : Int32} (hw : okWm fw) (hb0 : 0 ≤ bw) (hb1 : bw ≤ 20) (hd : okDeg fd pts) (ht : okTh fh pts) (hg : okFg fw bw fg) (h0 : -1 ≤ d) (h3 : day ≤ 39) (h : ¬ bSt d day = 0) : 0 ≤ hon fd fh fg pts d day ∧ hon fd fh fg pts d day ≤ 1000 := by
  rw [et_eq hw hb0 hb1 hg h0 h3, et_p h]
  exact hrd_b hw hb0 hb1 hd ht (by grind)
theorem brn_eq {η θ : Int32 → Int32 → Int32} {σ τ : Int32 → Int32} {uk uf uv w vk vf vv v : Nat → Int32} {a day : Int32} {n : Nat} (ha : a.toNatClampNeg < n) (hs : ¬ bSt (w a.toNatClampNeg) day = 0) (h : ∀ i, i < n → uk i = vk i ∧ uf i = vf i ∧ uv i = vv i ∧ w i = v i ∧ σ (w i) = τ (v i) ∧ (¬ bSt (w i) day = 0 → η (w i) day = θ (v i) day)) : brAN η σ uk uf uv w a day n = brAN θ τ vk vf vv v a day n ∧ brBN η uk uf w a day n = brBN θ vk vf v a day n := by
  have e1 : ∀ fl, hbN η uk uf w day fl n = hbN θ vk vf v day fl n := fun fl => hbN_eq n (fun i hi => ⟨(h i hi).1, (h i hi).2.1, (h i hi).2.2.2.1, (h i hi).2.2.2.2.2⟩)
  have e2 : ∀ fl, ldN σ uk uf uv w day fl n = ldN τ vk vf vv v day fl n := fun fl => ldN_eq n (fun i hi => ⟨(h i hi).1, (h i hi).2.1, (h i hi).2.2.1, (h i hi).2.2.2.1, (h i hi).2.2.2.2.1⟩)
  obtain ⟨_, a2, a3, a4, _, a6⟩ := h _ ha
  unfold brAN brBN
  rw [e1, e1, e2, e2, a2, a3, a6 hs]
  exact ⟨rfl, rfl⟩
theorem borne_cr {η θ : Int32 → Int32 → Int32} {σ τ : Int32 → Int32} {p0 p1 p2 p5 zk zf zv zw : Nat → Int32} {n m a day pa : Int32} {r s a9 l9 : Int64} (hσ : ∀ d : Int32, -1 ≤ d → d ≤ 39 → σ d = τ d) (hη : ∀ d day : Int32, -1 ≤ d → day ≤ 39 → ¬ bSt d day = 0 → η d day = θ d day) (hw : okWh p5) (e_p0 : ∀ j, j < n.toNatClampNeg → p0 j = zk j) (e_p1 : ∀ j, j < n.toNatClampNeg → p1 j = zf j) (e_p2 : ∀ j, j < n.toNatClampNeg → p2 j = zv j) (e_p5 : ∀ j, j < n.toNatClampNeg → p5 j = zw j) (en : n = m) (c1 : brB p0 p5 n a day pa → r = -9223372036854775808) (c2 : ¬ brB p0 p5 n a day pa → 0 ≤ r ∧ tn r = (if pa = 0 then brAN η σ p0 p1 p2 p5 a day n.toNatClampNeg / Nat.gcd (brAN η σ p0 p1 p2 p5 a day n.toNatClampNeg) (brBN η p0 p1 p5 a day n.toNatClampNeg) else brBN η p0 p1 p5 a day n.toNatClampNeg / Nat.gcd (brAN η σ p0 p1 p2 p5 a day n.toNatClampNeg) (brBN η p0 p1 p5 a day n.toNatClampNeg))) (m1 : brB zk zw m a day pa → s = -9223372036854775808) (m2 : ¬ brB zk zw m a day pa → 0 ≤ a9 ∧ 0 < l9 ∧ tn a9 * brBN θ zk zf zw a day m.toNatClampNeg = tn l9 * brAN θ τ zk zf zv zw a day m.toNatClampNeg ∧ Nat.gcd (tn a9) (tn l9) = 1 ∧ s = (if pa = 0 then a9 else l9)) : r = s := by
  subst en
  have hb : brB p0 p5 n a day pa ↔ brB zk zw n a day pa := by
    unfold brB
    by_cases h : a < 0 ∨ n ≤ a
    · rcases h with h | h <;> simp [h]
    · have hl := cl_mono (k := a) (n := n) (by grind) (by grind)
      rw [e_p0 _ hl, e_p5 _ hl]
  by_cases hc : brB p0 p5 n a day pa
  · rw [c1 hc, m1 (hb.mp hc)]
  · obtain ⟨r0, r1⟩ := c2 hc
    obtain ⟨s0, s1, s2, s3, s4⟩ := m2 (fun q => hc (hb.mpr q))
    have hx : ¬ a < 0 ∧ ¬ n ≤ a ∧ ¬ 39 < day ∧ ¬ bSt (p5 a.toNatClampNeg) day = 0 := by
      unfold brB at hc
      grind
    have hl := cl_mono (k := a) (n := n) (by grind) (by grind)
    have e := brn_eq (η := η) (θ := θ) (σ := σ) (τ := τ) (uk := p0) (uf := p1) (uv := p2) (w := p5) (vk := zk) (vf := zf) (vv := zv) (v := zw) (day := day) hl hx.2.2.2 (fun i hi => ⟨e_p0 i hi, e_p1 i hi, e_p2 i hi, e_p5 i hi, by rw [hσ _ (hw i).1 (hw i).2, e_p5 i hi], fun q => by rw [hη _ _ (hw i).1 (by grind) q, e_p5 i hi]⟩)
    rw [← e.1, ← e.2] at s2
    have hB : 0 < brBN η p0 p1 p5 a day n.toNatClampNeg := brD_0 _ _
    have q := red_eq s3 (tn_pos s1) hB s2
    rw [q.1, q.2] at r1
    rw [s4, tn_of r0, r1]
    split
    · exact (tn_of s0).symm
    · exact (tn_of (le_of_ltL s1)).symm
/-! steps in the walker's words -/
theorem hb_add {ks l m : Int64} {r x : Int32} (h0 : 0 ≤ ks) (hK : tn ks ≤ 1000000) (em : m = ks + l) (el : l = r.toInt64) (hr : 0 ≤ r ∧ r ≤ 1000) (ev : r = x) : 0 ≤ m ∧ tn m = tn ks + x.toNatClampNeg := by
  have c1 := tn_i hr.1
  have c2 := cl_le (n := r) (M := 1000) (k := 1000) rfl hr.2
  have a1 := add_tn h0 c1.1 (by rw [c1.2]; omega)
  rw [em, el, ← ev]
  exact ⟨a1.1, by rw [a1.2, c1.2]⟩
theorem tn_np {tg : Int64} {w : Int32} (ew : w = lg_cmp tg 0) (hw : w ≤ 0) (h0 : 0 ≤ tg) : tn tg = 0 := by
  rcases Nat.eq_zero_or_pos (tn tg) with q | q
  · exact q
  · have hp := pos_tn h0 q
    subst ew
    unfold lg_cmp at hw
    simp [hp] at hw
theorem br_z {v h T1 L1 T2 L2 : Nat} {ku k2 w : Int32} {kA kB tg ld m1 m2 m3 A2 B2 hl : Int64} {hd : Int32} (hI : brI v h T1 L1 T2 L2 ku (tn kA) (tn kB)) (hk : ku ≤ 2) (hv : v ≤ 200) (hh : h ≤ 1000) (t1 : T1 ≤ 10000) (l1 : L1 ≤ 2000) (t2 : T2 ≤ 10000) (l2 : L2 ≤ 2000) (hA : 0 ≤ kA) (hB : 0 < kB) (e4 : A2 = m1 + m3) (e1 : m1 = kA * tg) (e3 : m3 = m2 * hl) (e2 : m2 = kB * ld) (eh : hl = hd.toInt64) (e5 : B2 = kB * tg) (hT : tn tg = if ku = 1 then T1 else T2) (hL : tn ld = if ku = 1 then L1 else L2) (h0 : 0 ≤ tg) (g0 : 0 ≤ ld) (ew : w = lg_cmp tg 0) (hw : ¬ w ≤ 0) (d0 : 0 ≤ hd) (d1 : hd ≤ 1000) (ed : hd.toNatClampNeg = h) (e : k2 = ku + 1) : 0 ≤ A2 ∧ 0 < B2 ∧ brI v h T1 L1 T2 L2 k2 (tn A2) (tn B2) := by
  have bb := brI_b hI hk hv hh t1 l1
  have bT : tn tg ≤ 10000 := by
    rw [hT]
    split <;> omega
  have bL : tn ld ≤ 2000 := by
    rw [hL]
    split <;> omega
  have hp := tn_pos (lgP ew hw)
  have y := br_y hA hB bb.1 bb.2.1 h0 bT hp g0 bL d0 d1 e1 e2 eh e3 e4 e5
  rw [ed] at y
  exact ⟨y.1, y.2.1, brI_y hI hk e hT hL hp y.2.2.1 y.2.2.2⟩
theorem xa_n {v r : Int32} (h : 0 ≤ v ∧ v ≤ 200) (h2 : 0 ≤ r ∧ r ≤ 1000) : tn (v.toInt64 * r.toInt64) = v.toNatClampNeg * r.toNatClampNeg := by
  have a1 := tn_i h.1
  have a2 := tn_i h2.1
  have b1 := cl_le (n := v) (M := 200) (k := 200) rfl h.2
  have b2 := cl_le (n := r) (M := 1000) (k := 1000) rfl h2.2
  have b3 := Nat.mul_le_mul b1 b2
  have m1 := mul_tn a1.1 a2.1 (by rw [a1.2, a2.2]; omega)
  rw [m1.2, a1.2, a2.2]
theorem rb_skip {v h T1 T2 a l : Nat} {σ : Int32 → Int32} {uk uf uv w : Nat → Int32} {day f1 f2 k v2 : Int32} (hJ : brJ v h T1 T2 (ldN σ uk uf uv w day f1 k.toNatClampNeg) (ldN σ uk uf uv w day f2 k.toNatClampNeg) a l) (h0 : 0 ≤ k) (h1 : k < 1000) (e : v2 = k + 1) (hc : ¬ uk k.toNatClampNeg = 0 ∨ (¬ uf k.toNatClampNeg = f1 ∧ ¬ uf k.toNatClampNeg = f2) ∨ ¬ hlB σ w day k.toNatClampNeg = true) : brJ v h T1 T2 (ldN σ uk uf uv w day f1 v2.toNatClampNeg) (ldN σ uk uf uv w day f2 v2.toNatClampNeg) a l := by
  rw [ldN_s h0 h1 e, ldN_s h0 h1 e, if_neg (by grind), if_neg (by grind)]
  exact hJ
theorem rb_zero {v h T1 T2 a l : Nat} {σ : Int32 → Int32} {uk uf uv w : Nat → Int32} {day f1 f2 k v2 : Int32} (hJ : brJ v h T1 T2 (ldN σ uk uf uv w day f1 k.toNatClampNeg) (ldN σ uk uf uv w day f2 k.toNatClampNeg) a l) (h0 : 0 ≤ k) (h1 : k < 1000) (e : v2 = k + 1) (hf : (T1 = 0 ∧ ¬ uf k.toNatClampNeg = f2) ∨ (T2 = 0 ∧ ¬ uf k.toNatClampNeg = f1)) : brJ v h T1 T2 (ldN σ uk uf uv w day f1 v2.toNatClampNeg) (ldN σ uk uf uv w day f2 v2.toNatClampNeg) a l := by
  rcases hf with ⟨z, q⟩ | ⟨z, q⟩
  · refine brJ_n hJ (Or.inr z) (Or.inl ?_)
    rw [ldN_s h0 h1 e, if_neg (fun t => q t.1)]
  · refine brJ_n hJ (Or.inl ?_) (Or.inr z)
    rw [ldN_s h0 h1 e, if_neg (fun t => q t.1)]
theorem rb_add {v h T1 T2 T a l xa a2 l2 : Nat} {σ : Int32 → Int32} {uk uf uv w : Nat → Int32} {day f1 f2 k v2 : Int32} (hJ : brJ v h T1 T2 (ldN σ uk uf uv w day f1 k.toNatClampNeg) (ldN σ uk uf uv w day f2 k.toNatClampNeg) a l) (h0 : 0 ≤ k) (h1 : k < 1000) (e : v2 = k + 1) (e1 : a2 = (a * T + xa * l) / Nat.gcd (l * T) (a * T + xa * l)) (e2 : l2 = (l * T) / Nat.gcd (l * T) (a * T + xa * l)) (hl : 0 < l) (hk0 : uk k.toNatClampNeg = 0) (hh : hlB σ w day k.toNatClampNeg = true) (hf : (uf k.toNatClampNeg = f1 ∧ T = T1 ∧ ¬ uf k.toNatClampNeg = f2) ∨ (uf k.toNatClampNeg = f2 ∧ T = T2 ∧ ¬ uf k.toNatClampNeg = f1)) (hT : 0 < T) (hx : xa = (uv k.toNatClampNeg).toNatClampNeg * h) : brJ v h T1 T2 (ldN σ uk uf uv w day f1 v2.toNatClampNeg) (ldN σ uk uf uv w day f2 v2.toNatClampNeg) a2 l2 := by
  rw [ldN_s h0 h1 e, ldN_s h0 h1 e]
  rcases hf with ⟨z, q, r⟩ | ⟨z, q, r⟩
  · rw [if_pos ⟨z, hk0, hh⟩, if_neg (fun t => r t.1)]
    subst q
    exact brJ_1 hJ hl hT rfl hx e1 e2
  · rw [if_neg (fun t => r t.1), if_pos ⟨z, hk0, hh⟩]
    subst q
    exact brJ_2 hJ hl hT rfl hx e1 e2
