/-! ===== pure words of the reference ===== -/
def bDay (d : Int32) : Int32 := if d < 0 ∨ 40 ≤ d then 0 else 1
def bPi (p n : Int32) : Int32 := if p < 0 ∨ n ≤ p then 0 else 1
def okWh (f : Nat → Int32) : Prop := ∀ i : Nat, -1 ≤ f i ∧ f i ≤ 39
def prevD (f : Nat → Int32) : Nat → Int32
  | 0 => 0
  | i + 1 => f i
def okDeg (f : Nat → Int32) (pts : Int32) : Prop := ∀ i : Nat, i < pts.toNatClampNeg → 0 ≤ prevD f i ∧ prevD f i < f i ∧ f i ≤ 2000
def okHas (f : Nat → Int32) (n : Int32) : Prop := ∀ p : Int32, 0 ≤ p → p < n → ∃ i : Nat, i < n.toNatClampNeg ∧ f i = p
def sumD (fw : Nat → Int32) (bw po : Int32) : Nat → Int32
  | 0 => 0
  | n + 1 => sumD fw bw po n + (if bw < fw (po.toNatClampNeg + n) then fw (po.toNatClampNeg + n) - bw else 0)
def hrd (fw : Nat → Int32) (bw : Int32) (fd fh : Nat → Int32) (pts po day : Int32) : Int32 := if sumD fw bw po (day.toNatClampNeg - po.toNatClampNeg) < 0 then -2 else hof fd fh pts (sumD fw bw po (day.toNatClampNeg - po.toNatClampNeg)) 7 0 0 0
theorem okWh_upd {f : Nat → Int32} {v : Int32} {j : Nat} (h : okWh f) (h0 : -1 ≤ v) (h1 : v ≤ 39) : okWh (upd f j v) := by
  intro i
  unfold upd
  split
  · exact ⟨h0, h1⟩
  · exact h i
theorem cl_nI (k : Int32) (h : 0 ≤ k) : k = nI k.toNatClampNeg := by
  obtain ⟨j, hj, e⟩ := nI_of (x := k) (by grind)
  rw [e, nI_clamp hj]
theorem prevD_s {f : Nat → Int32} {k v : Int32} (h0 : 0 ≤ k) (h : k < 1000) (e : v = k + 1) : prevD f v.toNatClampNeg = f k.toNatClampNeg := by
  rw [e, cl_s h0 h]
  rfl
theorem sumD_s {fw : Nat → Int32} {bw po k v : Int32} (h0 : 0 ≤ po) (h1 : po ≤ k) (h2 : k < 1000) (e : v = k + 1) : sumD fw bw po (v.toNatClampNeg - po.toNatClampNeg) = sumD fw bw po (k.toNatClampNeg - po.toNatClampNeg) + (if bw < fw k.toNatClampNeg then fw k.toNatClampNeg - bw else 0) := by
  have a : po.toNatClampNeg ≤ k.toNatClampNeg := by
    have a := Int32.le_iff_toInt_le.mp h1
    show po.toInt.toNat ≤ k.toInt.toNat
    omega
  rw [e, cl_s (by grind) h2, show k.toNatClampNeg + 1 - po.toNatClampNeg = (k.toNatClampNeg - po.toNatClampNeg) + 1 by omega]
  show sumD fw bw po (k.toNatClampNeg - po.toNatClampNeg) + _ = _
  rw [show po.toNatClampNeg + (k.toNatClampNeg - po.toNatClampNeg) = k.toNatClampNeg by omega]
theorem find_lt {f : Nat → Int32} {n p k : Int32} (h : okHas f n) (hp0 : 0 ≤ p) (hp1 : p < n) (h0 : 0 ≤ k) (hall : ∀ j : Nat, j < k.toNatClampNeg → f j ≠ p) : k < n := by
  obtain ⟨i, hi, e⟩ := h p hp0 hp1
  rcases Nat.lt_or_ge i k.toNatClampNeg with h1 | h1
  · exact absurd e (hall i h1)
  · have h2 : k.toNatClampNeg < n.toNatClampNeg := by omega
    have h3 : k.toInt.toNat < n.toInt.toNat := h2
    exact Int32.lt_iff_toInt_lt.mpr (by omega)
theorem find_s {f : Nat → Int32} {p k v : Int32} (h0 : 0 ≤ k) (h1 : k < 1000) (e : v = k + 1) (hall : ∀ j : Nat, j < k.toNatClampNeg → f j ≠ p) (hk : ¬ f k.toNatClampNeg = p) : ∀ j : Nat, j < v.toNatClampNeg → f j ≠ p := by
  intro j hj
  rw [e, cl_s h0 h1] at hj
  rcases Nat.lt_or_ge j k.toNatClampNeg with h | h
  · exact hall j h
  · rw [show j = k.toNatClampNeg by omega]
    exact hk

theorem tb_lt {i : Nat} {k pts : Int32} (ek : k = nI i) (hi : i ≤ 6) (h6 : pts ≤ 6) (h : ¬ pts ≤ k) : i < 6 := by
  rcases Nat.lt_or_ge i 6 with h1 | h1
  · exact h1
  · exact absurd (show pts ≤ k by rw [ek, show i = 6 by omega]; exact h6) h
theorem tb_cl {i : Nat} {k pts : Int32} (ek : k = nI i) (hi : i < 2 ^ 31) (h : ¬ pts ≤ k) : i < pts.toNatClampNeg := by
  have h0 : 0 ≤ k := by rw [ek]; exact nI_pos' hi
  have := cl_mono (k := k) (n := pts) h0 (by grind)
  rw [nI_cl ek hi] at this
  exact this
theorem tb_no {i : Nat} {k pts : Int32} (ek : k = nI i) (hi : i ≤ 6) (h6 : pts ≤ 6) (h : ¬ pts ≤ k) : ¬ (pts ≤ nI i ∨ 6 ≤ nI i) := by
  subst ek
  grind

theorem cl_mle {a b : Int32} (h : a ≤ b) : a.toNatClampNeg ≤ b.toNatClampNeg := by
  have a9 := Int32.le_iff_toInt_le.mp h
  show a.toInt.toNat ≤ b.toInt.toNat
  omega
theorem sum_end {fw : Nat → Int32} {bw po day k ks : Int32} (hsu : ks = sumD fw bw po (k.toNatClampNeg - po.toNatClampNeg)) (h0k : po ≤ k) (hkd : po ≤ day → k ≤ day) (hk9 : day < po → k = po) (h : day ≤ k) : ks = sumD fw bw po (day.toNatClampNeg - po.toNatClampNeg) := by
  by_cases h9 : po ≤ day
  · have e8 : k = day := by grind
    rw [hsu, e8]
  · have e8 : k = po := by grind
    have e7 := cl_mle (a := day) (b := po) (by grind)
    rw [hsu, e8, Nat.sub_self, show day.toNatClampNeg - po.toNatClampNeg = 0 by omega]
theorem ix_in {a b : Int32} (h0 : 0 ≤ a) (h1 : a < 10) (h2 : 0 ≤ b) (h3 : b < 10) {v w : Int32} (e : v = 10 * a) (e2 : w = v + b) : vp_in w 100 := by
  exact vi_in (M := 100) rfl (by grind) (by grind)
