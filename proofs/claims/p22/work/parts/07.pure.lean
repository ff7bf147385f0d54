/-! ===== pure words ===== -/
def bIn (v a b : Int32) : Int32 := if v < a ∨ b < v then 0 else 1
def bHas (p n : Int32) : Int32 := if p < 0 ∨ n ≤ p ∨ 10 ≤ p then 0 else 1
def bSt (d day : Int32) : Int32 := if d = -1 ∨ day < d then 0 else 1
def bPl (i n : Int32) : Int32 := if i < 0 ∨ n ≤ i then 0 else 1
theorem nar_b {r : Int32} (h : r = 0 ∨ r = 1) : narrow .boolean (.int r) = .int r := by
  rcases h with rfl | rfl <;> rfl
theorem bIn_01 (v a b : Int32) : bIn v a b = 0 ∨ bIn v a b = 1 := by
  unfold bIn
  split <;> simp
theorem vi_in {x M : Int32} {n : Nat} (hM : M.toInt = n) (h0 : 0 ≤ x) (h1 : x < M) : vp_in x n := by
  rw [vp_in_iff]
  have a := Int32.le_iff_toInt_le.mp h0
  have b := Int32.lt_iff_toInt_lt.mp h1
  have z : (0 : Int32).toInt = 0 := rfl
  omega
theorem vi_ge {x : Int32} {n : Nat} (h : vp_in x n) : 0 ≤ x := by
  rw [vp_in_iff] at h
  have z : (0 : Int32).toInt = 0 := rfl
  exact Int32.le_iff_toInt_le.mpr (by omega)
theorem vi_lt {x M : Int32} {n : Nat} (hM : M.toInt = n) (h : vp_in x n) : x < M := by
  rw [vp_in_iff] at h
  exact Int32.lt_iff_toInt_lt.mpr (by omega)
theorem ms_dec {k v : Int32} {L n : Nat} (h0 : ¬ k < 0) (h : ¬ nI L ≤ k) (hL : L < 2 ^ 31) (e : v = k + 1) (hn : L - k.toNatClampNeg < n + 1) : L - v.toNatClampNeg < n := by
  obtain ⟨j, _, _, _, _, hd⟩ := pk_mu h0 h hL
  subst e
  omega
theorem cl_mono {k n : Int32} (h0 : 0 ≤ k) (h : k < n) : k.toNatClampNeg < n.toNatClampNeg := by
  have a := Int32.le_iff_toInt_le.mp h0
  have b := Int32.lt_iff_toInt_lt.mp h
  have z : (0 : Int32).toInt = 0 := rfl
  show k.toInt.toNat < n.toInt.toNat
  omega
theorem cl_le {n M : Int32} {k : Nat} (hM : M.toInt = k) (h : n ≤ M) : n.toNatClampNeg ≤ k := by
  have a := Int32.le_iff_toInt_le.mp h
  show n.toInt.toNat ≤ k
  omega
theorem cl_s {k : Int32} (h0 : 0 ≤ k) (h : k < 1000) : (k + 1).toNatClampNeg = k.toNatClampNeg + 1 := by
  obtain ⟨j, h1, h2, h3, h4, _⟩ := pk_mu (x := k) (L := 1000) (by grind) (show ¬ (1000 : Int32) ≤ k by grind) (by omega)
  rw [h3, h4, nI_clamp (by omega)]
/-- a falling counter -/
theorem ms_down {k v : Int32} {n : Nat} (h0 : 0 < k) (e : v = k + (-1)) (hn : k.toNatClampNeg < n + 1) : v.toNatClampNeg < n := by
  have h1 : v < k := by grind
  have h2 : 0 ≤ v := by grind
  have := cl_mono h2 h1
  omega
theorem tb_out {x M : Int32} {h : Int} (hM : M.toInt = h) (hx : x < 0 ∨ M < x) : x.toInt < 0 ∨ h < x.toInt := by
  have z : (0 : Int32).toInt = 0 := rfl
  rcases hx with hx | hx
  · have a := Int32.lt_iff_toInt_lt.mp hx
    omega
  · have a := Int32.lt_iff_toInt_lt.mp hx
    omega
def okRow (f : Nat → Int32) (n : Int32) : Prop := ∀ i : Nat, i < n.toNatClampNeg → 0 ≤ f i ∧ f i < n
def okSz (f : Nat → Int32) : Prop := ∀ i : Nat, 0 ≤ f i ∧ f i ≤ 2
def okS (f : Nat → Int32) : Prop := ∀ i : Nat, f i ≤ 40
theorem okRow_at {f : Nat → Int32} {n k : Int32} (h : okRow f n) (h0 : 0 ≤ k) (h1 : k < n) : 0 ≤ f k.toNatClampNeg ∧ f k.toNatClampNeg < n := h _ (cl_mono h0 h1)
theorem okRow_upd {f : Nat → Int32} {n v : Int32} {j : Nat} (h : okRow f n) (h0 : 0 ≤ v) (h1 : v < n) : okRow (upd f j v) n := by
  intro i hi
  unfold upd
  split
  · exact ⟨h0, h1⟩
  · exact h i hi
theorem okRow_0 {f : Nat → Int32} {n : Int32} (h : n ≤ 0) : okRow f n := by
  intro i hi
  have a := Int32.le_iff_toInt_le.mp h
  have z : (0 : Int32).toInt = 0 := rfl
  have : n.toNatClampNeg = 0 := by show n.toInt.toNat = 0; omega
  omega
theorem okRow_app {f : Nat → Int32} {n m : Int32} (h : okRow f n) (h0 : 0 ≤ n) (h1 : n < 10) (e : m = n + 1) : okRow (upd f n.toNatClampNeg n) m := by
  intro i hi
  have hs := cl_s h0 (by grind)
  rw [e, hs] at hi
  unfold upd
  split
  · subst e
    constructor <;> grind
  · have := h i (by omega)
    subst e
    constructor <;> grind
theorem okRow_cpy {f g : Nat → Int32} {n : Int32} (h : okRow f n) : okRow (va_cpy f g 0 0 n.toNatClampNeg) n := by
  intro i hi
  rw [pk_cpy_in (by omega) (by omega)]
  exact h _ (by omega)
theorem okSz_upd {f : Nat → Int32} {v : Int32} {j : Nat} (h : okSz f) (h0 : 0 ≤ v) (h1 : v ≤ 2) : okSz (upd f j v) := by
  intro i
  unfold upd
  split
  · exact ⟨h0, h1⟩
  · exact h i
theorem okS_upd {f : Nat → Int32} {v : Int32} {j : Nat} (h : okS f) (h1 : v ≤ 40) : okS (upd f j v) := by
  intro i
  unfold upd
  split
  · exact h1
  · exact h i
def hof (fd fh : Nat → Int32) (pts d : Int32) : Nat → Nat → Int32 → Int32 → Int32
  | 0, _, _, h => h
  | n + 1, i, g, h => if pts ≤ nI i ∨ 6 ≤ nI i then h else if d < fd i ∧ 0 < fd i - g then h + (fh i - h) * (d - g) / (fd i - g) else hof fd fh pts d n (i + 1) (fd i) (fh i)
theorem hof_s {fd fh : Nat → Int32} {pts d : Int32} {i : Nat} {g h : Int32} (hi : i ≤ 6) : hof fd fh pts d (7 - i) i g h = if pts ≤ nI i ∨ 6 ≤ nI i then h else if d < fd i ∧ 0 < fd i - g then h + (fh i - h) * (d - g) / (fd i - g) else hof fd fh pts d (7 - (i + 1)) (i + 1) (fd i) (fh i) := by
  obtain ⟨j, hj⟩ : ∃ j, 7 - i = j + 1 := ⟨6 - i, by omega⟩
  have hj2 : 7 - (i + 1) = j := by omega
  rw [hj, hj2]
  rfl
def hon (fd fh fg : Nat → Int32) (pts po day : Int32) : Int32 := if po < 0 ∨ day < po ∨ 40 ≤ day then -1 else hof fd fh pts (fg day.toNatClampNeg - fg po.toNatClampNeg) 7 0 0 0
theorem nI_lt6 {i : Nat} {k : Int32} (ek : k = nI i) (hi : i ≤ 6) (h : ¬ 6 ≤ k) : i < 6 := by
  rcases Nat.lt_or_ge i 6 with h1 | h1
  · exact h1
  · exact absurd (by rw [ek, show i = 6 by omega]; decide) h
theorem nI_cl {i : Nat} {k : Int32} (ek : k = nI i) (hi : i < 2 ^ 31) : k.toNatClampNeg = i := by
  rw [ek]
  exact nI_clamp hi
theorem lp_lt {N i : Nat} {k : Int32} (ek : k = nI i) (hi : i ≤ N) (hN : N < 2 ^ 31) (h : ¬ nI N ≤ k) : i < N := by
  rcases Nat.lt_or_ge i N with h1 | h1
  · exact h1
  · exact absurd (by rw [ek]; exact nI_le h1 (by omega)) h
theorem lp_in {N i : Nat} {k : Int32} (ek : k = nI i) (hi : i ≤ N) (hN : N < 2 ^ 31) (h : ¬ nI N ≤ k) : vp_in k N := by
  have h1 := lp_lt ek hi hN h
  rw [ek]
  exact vp_in_nI h1 hN
theorem lp_ge {N i j : Nat} {k : Int32} (ek : k = nI i) (hi : i ≤ N) (hN : N < 2 ^ 31) (h : nI N ≤ k) (hj : j < N) : j < i := by
  rcases Nat.lt_or_ge i N with h1 | h1
  · exact absurd h (by rw [ek]; exact nI_ge h1 hN)
  · omega
/-! the answers and the new numbers of the calls that tell something -/
def rForm (f : Nat → Int32) (s n : Int32) : Int32 := if s < 0 ∨ 2 < s then -1 else if n < 0 ∨ 50 < n then -2 else f s.toNatClampNeg
def sForm (f : Nat → Int32) (s n : Int32) : Nat → Int32 := if s < 0 ∨ 2 < s ∨ n < 0 ∨ 50 < n then f else upd f s.toNatClampNeg n
def rGang (g n : Int32) : Int32 := if n < 1 ∨ 1000 < n then -2 else g
def sGang (g n : Int32) : Int32 := if n < 1 ∨ 1000 < n then g else n
def rLevel (a b w v : Int32) : Int32 := if w < 0 ∨ 1 < w then -1 else if v < 0 ∨ 1000 < v then -2 else if w = 0 then a else b
def sLev0 (a w v : Int32) : Int32 := if w = 0 ∧ 0 ≤ v ∧ v ≤ 1000 then v else a
def sLev1 (b w v : Int32) : Int32 := if w = 1 ∧ 0 ≤ v ∧ v ≤ 1000 then v else b
def rWarm (f : Nat → Int32) (d w : Int32) : Int32 := if d < 0 ∨ 39 < d then -2147483648 else if w < -30 ∨ 50 < w then -2147483647 else f d.toNatClampNeg
def sWarm (f : Nat → Int32) (d w : Int32) : Nat → Int32 := if d < 0 ∨ 39 < d ∨ w < -30 ∨ 50 < w then f else upd f d.toNatClampNeg w
def rBase (g n : Int32) : Int32 := if n < 0 ∨ 20 < n then -2 else g
def sBase (g n : Int32) : Int32 := if n < 0 ∨ 20 < n then g else n
def bGo (fd fh : Nat → Int32) (pts d t : Int32) : Prop := d < 1 ∨ 2000 < d ∨ t < 0 ∨ 1000 < t ∨ (0 < pts ∧ (d ≤ fd (pts - 1).toNatClampNeg ∨ t < fh (pts - 1).toNatClampNeg))
def rPieceBad (k f v s n : Int32) : Prop := k < 0 ∨ 3 < k ∨ f < 0 ∨ 5 < f ∨ s < 0 ∨ 2 < s
def rPieceBad2 (k f v s n : Int32) : Prop := v < 1 ∨ 200 < v ∨ n < 1 ∨ 9 < n

theorem ms_day {k v : Int32} {n : Nat} (h : ¬ 40 ≤ k) (e : v = k + 1) (hn : (40 - k.toInt).toNat < n + 1) : (40 - v.toInt).toNat < n := by
  have a : ¬ (40 : Int32).toInt ≤ k.toInt := fun q => h (Int32.le_iff_toInt_le.mpr q)
  have z : (40 : Int32).toInt = 40 := rfl
  have o : (1 : Int32).toInt = 1 := rfl
  have l := Int32.le_toInt k
  have e2 : v.toInt = k.toInt + 1 := by
    rw [e, Int32.toInt_add, o]
    apply Int.bmod_eq_of_le <;> omega
  omega
