def pw (n : Int32) : Nat → Int32
  | 0 => 1
  | k + 1 => pw n k * n
def lf (n r : Int32) : Nat → Int32
  | 0 => r
  | m + 1 => lf n r m / n
def rmd (n x : Int32) : Int32 := x - x / n * n
def see (n r : Int32) : Nat → Int32
  | 0 => 0
  | m + 1 => see n r m ||| ((1 : Int32) <<< (rmd n (lf n r m) &&& 31))
def full (n : Int32) : Int32 := ((1 : Int32) <<< (n &&& 31)) - 1
def rid (n : Int32) : Int32 := if n = 1 then 0 else if n = 2 then 1 else if n = 3 then 5 else if n = 4 then 27 else 194
theorem n5 {n : Int32} (h0 : ¬ n = 0) (h1 : 0 ≤ n) (h2 : n ≤ 5) : n = 1 ∨ n = 2 ∨ n = 3 ∨ n = 4 ∨ n = 5 := by grind
def okDg (n : Nat) (j : Nat) : Bool := !(see (nI n) (nI j) n == full (nI n)) || (List.range n).all (fun p => (List.range n).any (fun q => rmd (nI n) (lf (nI n) (nI j) q) == nI p))
theorem okD1 : (List.range 1).all (okDg 1) = true := by decide +kernel
theorem okD2 : (List.range 4).all (okDg 2) = true := by decide +kernel
theorem okD3 : (List.range 27).all (okDg 3) = true := by decide +kernel
theorem okD4 : (List.range 256).all (okDg 4) = true := by decide +kernel
theorem okD5 : (List.range 25).all (fun c => (List.range 125).all (fun j => okDg 5 (125 * c + j))) = true := by decide +kernel
theorem okD5' (j : Nat) (h : j < 3125) : okDg 5 j = true := by
  have h1 := List.all_eq_true.mp okD5 (j / 125) (List.mem_range.mpr (by omega))
  have h2 := List.all_eq_true.mp h1 (j % 125) (List.mem_range.mpr (by omega))
  rw [show 125 * (j / 125) + j % 125 = j by omega] at h2
  exact h2
theorem okDg_use {n j : Nat} (h : okDg n j = true) (hs : see (nI n) (nI j) n = full (nI n)) : ∀ p, p < n → ∃ q, q < n ∧ rmd (nI n) (lf (nI n) (nI j) q) = nI p := by
  intro p hp
  unfold okDg at h
  rw [hs] at h
  simp only [beq_self_eq_true, Bool.not_true, Bool.false_or] at h
  have h1 := List.all_eq_true.mp h p (List.mem_range.mpr hp)
  obtain ⟨q, hq, e⟩ := List.any_eq_true.mp h1
  exact ⟨q, List.mem_range.mp hq, by simpa using e⟩
theorem pw5 {n : Int32} (h0 : ¬ n = 0) (h1 : 0 ≤ n) (h2 : n ≤ 5) : 0 ≤ rid n ∧ rid n < pw n n.toNatClampNeg ∧ pw n n.toNatClampNeg ≤ 3125 := by
  rcases n5 h0 h1 h2 with rfl | rfl | rfl | rfl | rfl <;> decide
theorem full_rid {n : Int32} (h0 : ¬ n = 0) (h1 : 0 ≤ n) (h2 : n ≤ 5) : see n (rid n) n.toNatClampNeg = full n := by
  rcases n5 h0 h1 h2 with rfl | rfl | rfl | rfl | rfl <;> decide +kernel
theorem best_has {n r : Int32} (h0 : ¬ n = 0) (h1 : 0 ≤ n) (h2 : n ≤ 5) (hr0 : 0 ≤ r) (hr1 : r < pw n n.toNatClampNeg) (hs : see n r n.toNatClampNeg = full n) : ∀ p : Int32, 0 ≤ p → p < n → ∃ q : Nat, q < n.toNatClampNeg ∧ rmd n (lf n r q) = p := by
  have er := cl_nI r hr0
  intro p hp0 hp1
  have ep := cl_nI p hp0
  have hpn := cl_mono hp0 hp1
  have hrl := cl_mono hr0 hr1
  rcases n5 h0 h1 h2 with rfl | rfl | rfl | rfl | rfl
  · obtain ⟨q, hq, e⟩ := okDg_use (n := 1) (j := r.toNatClampNeg) (List.all_eq_true.mp okD1 _ (List.mem_range.mpr hrl)) (by rw [← er]; exact hs) _ hpn
    exact ⟨q, hq, by rw [ep, ← e, ← er]; rfl⟩
  · obtain ⟨q, hq, e⟩ := okDg_use (n := 2) (j := r.toNatClampNeg) (List.all_eq_true.mp okD2 _ (List.mem_range.mpr hrl)) (by rw [← er]; exact hs) _ hpn
    exact ⟨q, hq, by rw [ep, ← e, ← er]; rfl⟩
  · obtain ⟨q, hq, e⟩ := okDg_use (n := 3) (j := r.toNatClampNeg) (List.all_eq_true.mp okD3 _ (List.mem_range.mpr hrl)) (by rw [← er]; exact hs) _ hpn
    exact ⟨q, hq, by rw [ep, ← e, ← er]; rfl⟩
  · obtain ⟨q, hq, e⟩ := okDg_use (n := 4) (j := r.toNatClampNeg) (List.all_eq_true.mp okD4 _ (List.mem_range.mpr hrl)) (by rw [← er]; exact hs) _ hpn
    exact ⟨q, hq, by rw [ep, ← e, ← er]; rfl⟩
  · obtain ⟨q, hq, e⟩ := okDg_use (n := 5) (j := r.toNatClampNeg) (okD5' _ hrl) (by rw [← er]; exact hs) _ hpn
    exact ⟨q, hq, by rw [ep, ← e, ← er]; rfl⟩
theorem div_nn {x n : Int32} (h0 : 0 ≤ x) (h1 : 0 < n) : 0 ≤ x / n := by
  obtain ⟨a, ha, rfl⟩ := nI_of (x := x) (by grind)
  obtain ⟨b, hb, rfl⟩ := nI_of (x := n) (by grind)
  have hb0 : 0 < b := by
    rcases Nat.eq_zero_or_pos b with h | h
    · subst h
      exact absurd h1 (by decide)
    · exact h
  rw [pk_div ha hb0 hb]
  exact nI_pos' (Nat.lt_of_le_of_lt (Nat.div_le_self _ _) ha)
theorem rmd_in {x n : Int32} (h0 : 0 ≤ x) (h1 : 0 < n) : 0 ≤ rmd n x ∧ rmd n x < n := by
  obtain ⟨a, ha, rfl⟩ := nI_of (x := x) (by grind)
  obtain ⟨b, hb, rfl⟩ := nI_of (x := n) (by grind)
  have hb0 : 0 < b := by
    rcases Nat.eq_zero_or_pos b with h | h
    · subst h
      exact absurd h1 (by decide)
    · exact h
  unfold rmd
  rw [pk_rem ha hb0 hb]
  have := Nat.mod_lt a hb0
  exact ⟨nI_pos' (by omega), nI_lt this hb⟩
theorem lf_nn {n r : Int32} (h0 : 0 ≤ r) (h1 : 0 < n) : ∀ m, 0 ≤ lf n r m
  | 0 => h0
  | m + 1 => div_nn (lf_nn h0 h1 m) h1
theorem tr_ok {n r : Int32} {tr : Nat → Int32} (hr0 : 0 ≤ r) (h1 : 0 < n) (h : ∀ q : Nat, q < n.toNatClampNeg → tr (n.toNatClampNeg - 1 - q) = rmd n (lf n r q)) : okRow tr n := by
  intro i hi
  have := h (n.toNatClampNeg - 1 - i) (by omega)
  rw [show n.toNatClampNeg - 1 - (n.toNatClampNeg - 1 - i) = i by omega] at this
  rw [this]
  exact rmd_in (lf_nn hr0 h1 _) h1
theorem tr_has {n r : Int32} {tr : Nat → Int32} (h0 : ¬ n = 0) (h1 : 0 ≤ n) (h2 : n ≤ 5) (hr0 : 0 ≤ r) (hr1 : r < pw n n.toNatClampNeg) (hs : see n r n.toNatClampNeg = full n) (h : ∀ q : Nat, q < n.toNatClampNeg → tr (n.toNatClampNeg - 1 - q) = rmd n (lf n r q)) : okHas tr n := by
  intro p hp0 hp1
  obtain ⟨q, hq, e⟩ := best_has h0 h1 h2 hr0 hr1 hs p hp0 hp1
  exact ⟨n.toNatClampNeg - 1 - q, by omega, by rw [h q hq]; exact e⟩
theorem ms_up {k v M : Int32} {n : Nat} (h : ¬ M ≤ k) (e : v = k + 1) (hn : (M.toInt - k.toInt).toNat < n + 1) : (M.toInt - v.toInt).toNat < n := by
  have a : ¬ M.toInt ≤ k.toInt := fun q => h (Int32.le_iff_toInt_le.mpr q)
  have o : (1 : Int32).toInt = 1 := rfl
  have l := Int32.le_toInt k
  have l2 := Int32.toInt_lt M
  have e2 : v.toInt = k.toInt + 1 := by
    rw [e, Int32.toInt_add, o]
    apply Int.bmod_eq_of_le <;> omega
  omega
theorem dg_m {num i v : Int32} (h0 : 0 ≤ i) (h1 : i < num) (h2 : num ≤ 10) (e : v = i + (-1)) : (num - 1 - v).toNatClampNeg = (num - 1 - i).toNatClampNeg + 1 ∧ num.toNatClampNeg - 1 - (num - 1 - i).toNatClampNeg = i.toNatClampNeg ∧ (num - 1 - i).toNatClampNeg < num.toNatClampNeg := by
  have a : num - 1 - v = (num - 1 - i) + 1 := by grind
  rw [a, cl_s (by grind) (by grind)]
  refine ⟨rfl, ?_, cl_mono (by grind) (by grind)⟩
  obtain ⟨x, hx, rfl⟩ := nI_of (x := i) (by grind)
  obtain ⟨y, hy, rfl⟩ := nI_of (x := num) (by grind)
  have hxy : x < y := by
    rcases Nat.lt_or_ge x y with h | h
    · exact h
    · exact absurd (nI_le h hx) (by grind)
  have e1 : nI y - 1 - nI x = nI (y - 1 - x) := by
    rw [show (1 : Int32) = nI 1 from rfl, pk_sub (by omega), pk_sub (by omega)]
  rw [e1, nI_clamp hy, nI_clamp hx, nI_clamp (by omega)]
  omega
