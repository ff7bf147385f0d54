/-! ===== pure words of the answers ===== -/
def bIn (v a b : Int32) : Int32 := if v < a ∨ b < v then 0 else 1
def bHas (p n : Int32) : Int32 := if p < 0 ∨ n ≤ p ∨ 10 ≤ p then 0 else 1
theorem nar_b {r : Int32} (h : r = 0 ∨ r = 1) : narrow .boolean (.int r) = .int r := by
  rcases h with rfl | rfl <;> rfl
theorem bIn_01 (v a b : Int32) : bIn v a b = 0 ∨ bIn v a b = 1 := by
  unfold bIn
  split <;> simp
theorem bHas_01 (p n : Int32) : bHas p n = 0 ∨ bHas p n = 1 := by
  unfold bHas
  split <;> simp
theorem vi_in {x M : Int32} {n : Nat} (hM : M.toInt = n) (h0 : 0 ≤ x) (h1 : x < M) : vp_in x n := by
  rw [vp_in_iff]
  have a := Int32.le_iff_toInt_le.mp h0
  have b := Int32.lt_iff_toInt_lt.mp h1
  have z : (0 : Int32).toInt = 0 := rfl
  omega
theorem ms_dec {k v : Int32} {L n : Nat} (h0 : ¬ k < 0) (h : ¬ nI L ≤ k) (hL : L < 2 ^ 31) (e : v = k + 1) (hn : L - k.toNatClampNeg < n + 1) : L - v.toNatClampNeg < n := by
  obtain ⟨j, _, _, _, _, hd⟩ := pk_mu h0 h hL
  subst e
  omega
theorem tb_out {x M : Int32} {h : Int} (hM : M.toInt = h) (hx : x < 0 ∨ M < x) : x.toInt < 0 ∨ h < x.toInt := by
  have z : (0 : Int32).toInt = 0 := rfl
  rcases hx with hx | hx
  · have a := Int32.lt_iff_toInt_lt.mp hx
    omega
  · have a := Int32.lt_iff_toInt_lt.mp hx
    omega
def hof (fd fh : Nat → Int32) (pts d : Int32) : Nat → Nat → Int32 → Int32 → Int32
  | 0, _, _, h => h
  | n + 1, i, g, h => if pts ≤ nI i ∨ 6 ≤ nI i then h else if d < fd i ∧ 0 < fd i - g then h + (fh i - h) * (d - g) / (fd i - g) else hof fd fh pts d n (i + 1) (fd i) (fh i)
theorem hof_s {fd fh : Nat → Int32} {pts d : Int32} {i : Nat} {g h : Int32} (hi : i ≤ 6) : hof fd fh pts d (7 - i) i g h = if pts ≤ nI i ∨ 6 ≤ nI i then h else if d < fd i ∧ 0 < fd i - g then h + (fh i - h) * (d - g) / (fd i - g) else hof fd fh pts d (7 - (i + 1)) (i + 1) (fd i) (fh i) := by
  obtain ⟨j, hj⟩ : ∃ j, 7 - i = j + 1 := ⟨6 - i, by omega⟩
  have hj2 : 7 - (i + 1) = j := by omega
  rw [hj, hj2]
  rfl
def hon (fd fh fg : Nat → Int32) (pts po day : Int32) : Int32 := if po < 0 ∨ day < po ∨ 40 ≤ day then -1 else hof fd fh pts (fg day.toNatClampNeg - fg po.toNatClampNeg) 7 0 0 0
theorem hof_0 (fd fh : Nat → Int32) (d : Int32) : hof fd fh 0 d 7 0 0 0 = 0 := by
  simp [hof, nI_0]
theorem nI_lt6 {i : Nat} {k : Int32} (ek : k = nI i) (hi : i ≤ 6) (h : ¬ 6 ≤ k) : i < 6 := by
  rcases Nat.lt_or_ge i 6 with h1 | h1
  · exact h1
  · exact absurd (by rw [ek, show i = 6 by omega]; decide) h
theorem nI_cl {i : Nat} {k : Int32} (ek : k = nI i) (hi : i < 2 ^ 31) : k.toNatClampNeg = i := by
  rw [ek]
  exact nI_clamp hi

theorem lp_lt {N i : Nat} {k : Int32} (ek : k = nI i) (hi : i ≤ N) (hN : N < 2 ^ 31) (h : ¬ nI N ≤ k) : i < N := by
  rcases Nat.lt_or_ge i N with h1 | h1
  · exact h1
  · exact absurd (by rw [ek]; exact nI_le h1 (by omega)) h
theorem lp_in {N i : Nat} {k : Int32} (ek : k = nI i) (hi : i ≤ N) (hN : N < 2 ^ 31) (h : ¬ nI N ≤ k) : vp_in k N := by
  have h1 := lp_lt ek hi hN h
  rw [ek]
  exact vp_in_nI h1 hN
theorem lp_ge {N i j : Nat} {k : Int32} (ek : k = nI i) (hi : i ≤ N) (hN : N < 2 ^ 31) (h : nI N ≤ k) (hj : j < N) : j < i := by
  rcases Nat.lt_or_ge i N with h1 | h1
  · exact absurd h (by rw [ek]; exact nI_ge h1 hN)
  · omega

/-! the answers of the first call on a fresh object -/
def an_piece (k f v s n : Int32) : Int32 := if k < 0 ∨ 3 < k ∨ f < 0 ∨ 5 < f ∨ s < 0 ∨ 2 < s then -1 else if v < 1 ∨ 200 < v ∨ n < 1 ∨ 9 < n then -2 else 0
def an_form (s n : Int32) : Int32 := if s < 0 ∨ 2 < s then -1 else if n < 0 ∨ 50 < n then -2 else 10
def an_gang (n : Int32) : Int32 := if n < 1 ∨ 1000 < n then -2 else 100
def an_level (w v : Int32) : Int32 := if w < 0 ∨ 1 < w then -1 else if v < 0 ∨ 1000 < v then -2 else if w = 0 then 500 else 300
def an_warm (d w : Int32) : Int32 := if d < 0 ∨ 39 < d then -2147483648 else if w < -30 ∨ 50 < w then -2147483647 else 20
def an_base (b : Int32) : Int32 := if b < 0 ∨ 20 < b then -2 else 0
def an_point (d t : Int32) : Int32 := if d < 1 ∨ 2000 < d ∨ t < 0 ∨ 1000 < t then -2 else 1
def an_table (d : Int32) : Int32 := if d < 0 then -2 else 0
def an_now (d : Int32) : Int32 := if d < 0 ∨ 39 < d then -1 else 0
def an_free (s d : Int32) : Int32 := if s < 0 ∨ 2 < s ∨ d < 0 ∨ 39 < d then -1 else 10
def an_poured (d : Int32) : Int32 := if d < 0 ∨ 39 < d then -1 else 0
def an_count (w : Int32) : Int32 := if w = 4 then 100 else if w < 0 ∨ 6 < w then -1 else 0
theorem cl_lt {x : Int32} {n : Nat} (h : vp_in x n) : x.toNatClampNeg < n := Nat.not_le.mp fun q => h (Or.inr q)

def bDay (d : Int32) : Int32 := if d < 0 ∨ 40 ≤ d then 0 else 1
