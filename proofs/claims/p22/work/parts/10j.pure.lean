/-! ===== the best row: class and reference go through the same rows ===== -/
def dig (n : Int32) (r : Nat) : Nat → Int32 := fun i => rmd n (lf n (nI r) (n.toNatClampNeg - 1 - i))
def vld (n : Int32) (r : Nat) : Bool := see n (nI r) n.toNatClampNeg == full n
/-- the first one from s on that is a row of all pieces -/
def fnv (n : Int32) : Nat → Nat → Nat
  | 0, s => s
  | k + 1, s => if vld n s = true then s else fnv n k (s + 1)
theorem fnv_is {n : Int32} : ∀ k s, s ≤ fnv n k s ∧ fnv n k s ≤ s + k ∧ (∀ t, s ≤ t → t < fnv n k s → ¬ vld n t = true) ∧ (fnv n k s = s + k ∨ vld n (fnv n k s) = true)
  | 0, s => ⟨Nat.le_refl _, Nat.le_refl _, fun t h1 h2 => absurd h2 (by show ¬ t < s; omega), Or.inl rfl⟩
  | k + 1, s => by
    by_cases h : vld n s = true
    · have e : fnv n (k + 1) s = s := if_pos h
      rw [e]
      exact ⟨Nat.le_refl _, by omega, fun t h1 h2 => by omega, Or.inr h⟩
    · have e : fnv n (k + 1) s = fnv n k (s + 1) := if_neg h
      obtain ⟨a, b, c, d⟩ := fnv_is (n := n) k (s + 1)
      rw [e]
      refine ⟨by omega, by omega, fun t h1 h2 => ?_, ?_⟩
      · by_cases q : t = s
        · rw [q]
          exact h
        · exact c t (by omega) h2
      · rcases d with d | d
        · exact Or.inl (by omega)
        · exact Or.inr d
def nok (n N v : Nat) : Bool := !(vld (nI n) v) || (if fnv (nI n) (N - (v + 1)) (v + 1) == N then pv (dig (nI n) v) (n - 1) == 0 else !(pv (dig (nI n) v) (n - 1) == 0) && (List.range n).all (fun i => nxF (dig (nI n) v) n i == dig (nI n) (fnv (nI n) (N - (v + 1)) (v + 1)) i))
theorem nok1 : (List.range 1).all (nok 1 1) = true := by decide +kernel
theorem nok2 : (List.range 4).all (nok 2 4) = true := by decide +kernel
theorem nok3 : (List.range 27).all (nok 3 27) = true := by decide +kernel
theorem nok4 : (List.range 256).all (nok 4 256) = true := by decide +kernel
theorem nok5 : (List.range 25).all (fun c => (List.range 125).all (fun j => nok 5 3125 (125 * c + j))) = true := by decide +kernel
theorem nok5' (j : Nat) (h : j < 3125) : nok 5 3125 j = true := by
  have h1 := List.all_eq_true.mp nok5 (j / 125) (List.mem_range.mpr (by omega))
  have h2 := List.all_eq_true.mp h1 (j % 125) (List.mem_range.mpr (by omega))
  rw [show 125 * (j / 125) + j % 125 = j by omega] at h2
  exact h2
theorem nok_use {n N v : Nat} (h : nok n N v = true) (hv : vld (nI n) v = true) (hN : v < N) : (pv (dig (nI n) v) (n - 1) = 0 ∧ ∀ t, v < t → t < N → ¬ vld (nI n) t = true) ∨ (¬ pv (dig (nI n) v) (n - 1) = 0 ∧ ∃ u, v < u ∧ u < N ∧ vld (nI n) u = true ∧ (∀ t, v < t → t < u → ¬ vld (nI n) t = true) ∧ ∀ i, i < n → nxF (dig (nI n) v) n i = dig (nI n) u i) := by
  obtain ⟨a, b, c, d⟩ := fnv_is (n := nI n) (N - (v + 1)) (v + 1)
  unfold nok at h
  rw [hv] at h
  simp only [Bool.not_true, Bool.false_or] at h
  by_cases q : fnv (nI n) (N - (v + 1)) (v + 1) = N
  · rw [q] at h c
    simp only [beq_self_eq_true, if_true] at h
    exact Or.inl ⟨by simpa using h, fun t h1 h2 => c t (by omega) h2⟩
  · have q2 : (fnv (nI n) (N - (v + 1)) (v + 1) == N) = false := by simpa using q
    rw [q2] at h
    simp only [Bool.false_eq_true, if_false, Bool.and_eq_true] at h
    refine Or.inr ⟨by simpa using h.1, fnv (nI n) (N - (v + 1)) (v + 1), by omega, by omega, d.resolve_left (by omega), fun t h1 h2 => c t (by omega) h2, fun i hi => ?_⟩
    have := List.all_eq_true.mp h.2 i (List.mem_range.mpr hi)
    simpa using this
/-- n^n -/
def pwN (n : Int32) : Nat := (pw n n.toNatClampNeg).toNatClampNeg
def ridN (n : Int32) : Nat := (rid n).toNatClampNeg
theorem nxt_ok {n : Int32} {v : Nat} (h0 : ¬ n = 0) (h1 : 0 ≤ n) (h2 : n ≤ 5) (hv : vld n v = true) (hN : v < pwN n) : (pv (dig n v) (n.toNatClampNeg - 1) = 0 ∧ ∀ t, v < t → t < pwN n → ¬ vld n t = true) ∨ (¬ pv (dig n v) (n.toNatClampNeg - 1) = 0 ∧ ∃ u, v < u ∧ u < pwN n ∧ vld n u = true ∧ (∀ t, v < t → t < u → ¬ vld n t = true) ∧ ∀ i, i < n.toNatClampNeg → nxF (dig n v) n.toNatClampNeg i = dig n u i) := by
  rcases n5 h0 h1 h2 with rfl | rfl | rfl | rfl | rfl
  · exact nok_use (n := 1) (N := 1) (List.all_eq_true.mp nok1 v (List.mem_range.mpr hN)) hv hN
  · exact nok_use (n := 2) (N := 4) (List.all_eq_true.mp nok2 v (List.mem_range.mpr hN)) hv hN
  · exact nok_use (n := 3) (N := 27) (List.all_eq_true.mp nok3 v (List.mem_range.mpr hN)) hv hN
  · exact nok_use (n := 4) (N := 256) (List.all_eq_true.mp nok4 v (List.mem_range.mpr hN)) hv hN
  · exact nok_use (n := 5) (N := 3125) (nok5' v hN) hv hN
/-! the first row -/
def fst (n : Nat) : Bool := vld (nI n) (ridN (nI n)) && (List.range (ridN (nI n))).all (fun t => !(vld (nI n) t)) && (List.range n).all (fun i => dig (nI n) (ridN (nI n)) i == nI i) && decide (ridN (nI n) < pwN (nI n))
theorem fst5 : (List.range 5).all (fun c => fst (c + 1)) = true := by decide +kernel
theorem fst_is {n : Int32} (h0 : ¬ n = 0) (h1 : 0 ≤ n) (h2 : n ≤ 5) : vld n (ridN n) = true ∧ (∀ t, t < ridN n → ¬ vld n t = true) ∧ (∀ i, i < n.toNatClampNeg → dig n (ridN n) i = nI i) ∧ ridN n < pwN n := by
  have key : ∀ c, c < 5 → vld (nI (c + 1)) (ridN (nI (c + 1))) = true ∧ (∀ t, t < ridN (nI (c + 1)) → ¬ vld (nI (c + 1)) t = true) ∧ (∀ i, i < c + 1 → dig (nI (c + 1)) (ridN (nI (c + 1))) i = nI i) ∧ ridN (nI (c + 1)) < pwN (nI (c + 1)) := by
    intro c hc
    have h := List.all_eq_true.mp fst5 c (List.mem_range.mpr hc)
    unfold fst at h
    simp only [Bool.and_eq_true] at h
    obtain ⟨⟨⟨a, b⟩, d⟩, e⟩ := h
    refine ⟨a, fun t ht => ?_, fun i hi => ?_, of_decide_eq_true e⟩
    · have := List.all_eq_true.mp b t (List.mem_range.mpr ht)
      simpa using this
    · have := List.all_eq_true.mp d i (List.mem_range.mpr hi)
      simpa using this
  rcases n5 h0 h1 h2 with rfl | rfl | rfl | rfl | rfl
  · exact key 0 (by omega)
  · exact key 1 (by omega)
  · exact key 2 (by omega)
  · exact key 3 (by omega)
  · exact key 4 (by omega)
/-! at most 120 rows -/
def rkN (n : Int32) : Nat → Nat
  | 0 => 0
  | r + 1 => if vld n r = true then rkN n r + 1 else rkN n r
def ccN (n : Int32) (a : Nat) : Nat → Nat
  | 0 => 0
  | m + 1 => if vld n (a + m) = true then ccN n a m + 1 else ccN n a m
def scN (n : Int32) : Nat → Nat
  | 0 => 0
  | c + 1 => scN n c + ccN n (125 * c) 125
theorem rk_cc {n : Int32} {a : Nat} : ∀ m, rkN n (a + m) = rkN n a + ccN n a m
  | 0 => rfl
  | m + 1 => by
    have ih := rk_cc (n := n) (a := a) m
    show (if vld n (a + m) = true then rkN n (a + m) + 1 else rkN n (a + m)) = rkN n a + (if vld n (a + m) = true then ccN n a m + 1 else ccN n a m)
    rw [ih]
    split <;> omega
theorem rk_sc {n : Int32} : ∀ c, rkN n (125 * c) = scN n c
  | 0 => rfl
  | c + 1 => by
    have ih := rk_sc (n := n) c
    rw [show 125 * (c + 1) = 125 * c + 125 by omega, rk_cc, ih]
    rfl
theorem sc5 : scN 5 25 ≤ 120 := by decide +kernel
theorem sc4 : rkN 4 256 ≤ 120 := by decide +kernel
theorem sc3 : rkN 3 27 ≤ 120 := by decide +kernel
theorem sc2 : rkN 2 4 ≤ 120 := by decide +kernel
theorem sc1 : rkN 1 1 ≤ 120 := by decide +kernel
theorem rk_120 {n : Int32} (h0 : ¬ n = 0) (h1 : 0 ≤ n) (h2 : n ≤ 5) : rkN n (pwN n) ≤ 120 := by
  rcases n5 h0 h1 h2 with rfl | rfl | rfl | rfl | rfl
  · exact sc1
  · exact sc2
  · exact sc3
  · exact sc4
  · have e : rkN 5 (125 * 25) = scN 5 25 := rk_sc 25
    have h := sc5
    rw [← e] at h
    exact h
theorem rk_mono {n : Int32} {a : Nat} (m : Nat) : rkN n a ≤ rkN n (a + m) := by
  rw [rk_cc]
  omega
theorem rk_v {n : Int32} {v : Nat} (h0 : ¬ n = 0) (h1 : 0 ≤ n) (h2 : n ≤ 5) (hv : vld n v = true) (hN : v < pwN n) : rkN n v < 120 := by
  have a := rk_120 h0 h1 h2
  have b := rk_mono (n := n) (a := v + 1) (pwN n - (v + 1))
  rw [show v + 1 + (pwN n - (v + 1)) = pwN n by omega] at b
  have c : rkN n (v + 1) = rkN n v + 1 := if_pos hv
  omega
theorem rk_gap {n : Int32} {a : Nat} : ∀ m, (∀ t, a ≤ t → t < a + m → ¬ vld n t = true) → rkN n (a + m) = rkN n a
  | 0, _ => rfl
  | m + 1, h => by
    have ih := rk_gap m (fun t h1 h2 => h t h1 (by omega))
    show (if vld n (a + m) = true then rkN n (a + m) + 1 else rkN n (a + m)) = rkN n a
    rw [if_neg (h (a + m) (by omega) (by omega)), ih]
/-! ===== the least END so far, and the row of it ===== -/
def bsL (E : (Nat → Int32) → Int32) (n : Int32) : Nat → Int32
  | 0 => 41
  | r + 1 => if vld n r = true ∧ E (dig n r) < bsL E n r then E (dig n r) else bsL E n r
def bsI (E : (Nat → Int32) → Int32) (n : Int32) : Nat → Nat
  | 0 => 0
  | r + 1 => if vld n r = true ∧ E (dig n r) < bsL E n r then r else bsI E n r
theorem bs_gap {E : (Nat → Int32) → Int32} {n : Int32} {a : Nat} : ∀ m, (∀ t, a ≤ t → t < a + m → ¬ vld n t = true) → bsL E n (a + m) = bsL E n a ∧ bsI E n (a + m) = bsI E n a
  | 0, _ => ⟨rfl, rfl⟩
  | m + 1, h => by
    have ih := bs_gap (E := E) m (fun t h1 h2 => h t h1 (by omega))
    have q : ¬ (vld n (a + m) = true ∧ E (dig n (a + m)) < bsL E n (a + m)) := fun z => h (a + m) (by omega) (by omega) z.1
    show (if vld n (a + m) = true ∧ E (dig n (a + m)) < bsL E n (a + m) then E (dig n (a + m)) else bsL E n (a + m)) = _ ∧ (if vld n (a + m) = true ∧ E (dig n (a + m)) < bsL E n (a + m) then a + m else bsI E n (a + m)) = _
    rw [if_neg q, if_neg q]
    exact ih
theorem bs_to {E : (Nat → Int32) → Int32} {n : Int32} {a b : Nat} (hab : a ≤ b) (h : ∀ t, a ≤ t → t < b → ¬ vld n t = true) : bsL E n b = bsL E n a ∧ bsI E n b = bsI E n a := by
  have := bs_gap (E := E) (n := n) (a := a) (b - a) (fun t h1 h2 => h t h1 (by omega))
  rw [show a + (b - a) = b by omega] at this
  exact this
theorem rk_to {n : Int32} {a b : Nat} (hab : a ≤ b) (h : ∀ t, a ≤ t → t < b → ¬ vld n t = true) : rkN n b = rkN n a := by
  have := rk_gap (n := n) (a := a) (b - a) (fun t h1 h2 => h t h1 (by omega))
  rw [show a + (b - a) = b by omega] at this
  exact this
theorem bs_v {E : (Nat → Int32) → Int32} {n : Int32} : ∀ r, bsL E n r = 41 ∨ (vld n (bsI E n r) = true ∧ bsI E n r < r ∧ bsL E n r = E (dig n (bsI E n r)))
  | 0 => Or.inl rfl
  | r + 1 => by
    by_cases q : vld n r = true ∧ E (dig n r) < bsL E n r
    · have e1 : bsL E n (r + 1) = E (dig n r) := if_pos q
      have e2 : bsI E n (r + 1) = r := if_pos q
      rw [e1, e2]
      exact Or.inr ⟨q.1, by omega, rfl⟩
    · have e1 : bsL E n (r + 1) = bsL E n r := if_neg q
      have e2 : bsI E n (r + 1) = bsI E n r := if_neg q
      rw [e1, e2]
      rcases bs_v (E := E) (n := n) r with h | h
      · exact Or.inl h
      · exact Or.inr ⟨h.1, by omega, h.2.2⟩
theorem bs_le {E : (Nat → Int32) → Int32} {n : Int32} {v : Nat} (hv : vld n v = true) : ∀ r, v < r → bsL E n r ≤ E (dig n v)
  | 0, h => absurd h (Nat.not_lt_zero _)
  | r + 1, h => by
    show (if vld n r = true ∧ E (dig n r) < bsL E n r then E (dig n r) else bsL E n r) ≤ E (dig n v)
    by_cases q : vld n r = true ∧ E (dig n r) < bsL E n r
    · rw [if_pos q]
      by_cases e : v = r
      · rw [e]
        exact Int32.le_refl _
      · have := bs_le hv r (by omega) (E := E)
        grind
    · rw [if_neg q]
      by_cases e : v = r
      · subst e
        grind
      · exact bs_le hv r (by omega)
/-- some row is the best one -/
theorem bs_end {E : (Nat → Int32) → Int32} {n : Int32} (h0 : ¬ n = 0) (h1 : 0 ≤ n) (h2 : n ≤ 5) (hE : ∀ g, E g ≤ 40) : vld n (bsI E n (pwN n)) = true ∧ bsI E n (pwN n) < pwN n := by
  have f := fst_is h0 h1 h2
  have l := bs_le (E := E) f.1 (pwN n) f.2.2.2
  rcases bs_v (E := E) (n := n) (pwN n) with h | h
  · have := hE (dig n (ridN n))
    rw [h] at l
    exact absurd l (by grind)
  · exact ⟨h.1, h.2.1⟩
theorem bs_eq {E F : (Nat → Int32) → Int32} {n : Int32} : ∀ r, (∀ v, v < r → vld n v = true → E (dig n v) = F (dig n v)) → bsL E n r = bsL F n r ∧ bsI E n r = bsI F n r
  | 0, _ => ⟨rfl, rfl⟩
  | r + 1, h => by
    have ih := bs_eq r (fun v hv => h v (by omega))
    show (if vld n r = true ∧ E (dig n r) < bsL E n r then E (dig n r) else bsL E n r) = (if vld n r = true ∧ F (dig n r) < bsL F n r then F (dig n r) else bsL F n r) ∧ (if vld n r = true ∧ E (dig n r) < bsL E n r then r else bsI E n r) = (if vld n r = true ∧ F (dig n r) < bsL F n r then r else bsI F n r)
    by_cases q : vld n r = true
    · rw [h r (by omega) q, ih.1, ih.2]
      exact ⟨rfl, rfl⟩
    · rw [if_neg (fun z => q z.1), if_neg (fun z => q z.1), if_neg (fun z => q z.1), if_neg (fun z => q z.1)]
      exact ih
theorem dig_ok {n : Int32} {v : Nat} (h0 : ¬ n = 0) (h1 : 0 ≤ n) (h2 : n ≤ 5) (hv : vld n v = true) (hN : v < pwN n) : okP (dig n v) n := by
  have hb := pw5 h0 h1 h2
  have hp : pwN n ≤ 3125 := cl_le (n := pw n n.toNatClampNeg) (M := 3125) (k := 3125) rfl hb.2.2
  have e : n.toNatClampNeg - 1 < n.toNatClampNeg := by
    have := cl_mono (k := 0) (n := n) (by decide) (by grind)
    omega
  have hs : see n (nI v) n.toNatClampNeg = full n := by
    unfold vld at hv
    simpa using hv
  have ht : ∀ q : Nat, q < n.toNatClampNeg → dig n v (n.toNatClampNeg - 1 - q) = rmd n (lf n (nI v) q) := fun q hq => by
    unfold dig
    rw [show n.toNatClampNeg - 1 - (n.toNatClampNeg - 1 - q) = q by omega]
  have hr0 : 0 ≤ nI v := nI_pos' (by omega)
  have hr1 : nI v < pw n n.toNatClampNeg := by
    rw [cl_nI (pw n n.toNatClampNeg) (by grind)]
    exact nI_lt hN (by
      show pwN n < 2 ^ 31
      omega)
  exact ⟨tr_ok hr0 (by grind) ht, tr_has h0 h1 h2 hr0 hr1 hs ht⟩
/-! the class's loop -/
def bst (E : (Nat → Int32) → Int32) (n : Int32) (sg : Nat → Int32) (kl : Int32) (bg : Nat → Int32) (k : Int32) : Prop := ∃ v, v < pwN n ∧ vld n v = true ∧ (∀ i, i < n.toNatClampNeg → sg i = dig n v i) ∧ kl = bsL E n v ∧ (kl = 41 ∨ ∀ i, i < n.toNatClampNeg → bg i = dig n (bsI E n v) i) ∧ k = nI (rkN n v)
theorem bst_0 {E : (Nat → Int32) → Int32} {n : Int32} {sg bg : Nat → Int32} (h0 : ¬ n = 0) (h1 : 0 ≤ n) (h2 : n ≤ 5) (hs : ∀ i, i < n.toNatClampNeg → sg i = nI i) : bst E n sg 41 bg 0 := by
  have f := fst_is h0 h1 h2
  have b := bs_to (E := E) (n := n) (a := 0) (b := ridN n) (Nat.zero_le _) (fun t _ ht => f.2.1 t ht)
  have r := rk_to (n := n) (a := 0) (b := ridN n) (Nat.zero_le _) (fun t _ ht => f.2.1 t ht)
  refine ⟨ridN n, f.2.2.2, f.1, fun i hi => by rw [hs i hi, f.2.2.1 i hi], ?_, Or.inl rfl, ?_⟩
  · rw [b.1]
    rfl
  · rw [r]
    rfl
theorem bst_ok {E : (Nat → Int32) → Int32} {n : Int32} {sg bg : Nat → Int32} {kl k : Int32} (h0 : ¬ n = 0) (h1 : 0 ≤ n) (h2 : n ≤ 5) (h : bst E n sg kl bg k) : okP sg n := by
  obtain ⟨v, a, b, c, _⟩ := h
  exact okP_eq (dig_ok h0 h1 h2 b a) c
theorem bst_k {E : (Nat → Int32) → Int32} {n : Int32} {sg bg : Nat → Int32} {kl k : Int32} (h0 : ¬ n = 0) (h1 : 0 ≤ n) (h2 : n ≤ 5) (h : bst E n sg kl bg k) : 0 ≤ k ∧ k < 120 := by
  obtain ⟨v, a, b, c, d, e, g⟩ := h
  have r := rk_v h0 h1 h2 b a
  rw [g]
  exact ⟨nI_pos' (by omega), nI_lt (a := rkN n v) (b := 120) r (by omega)⟩
/-- one row more: the least one and its row -/
theorem bst_mid {E : (Nat → Int32) → Int32} {n : Int32} {sg bg bg2 : Nat → Int32} {kl kl2 k en : Int32} {v : Nat} (hEr : ∀ a b : Nat → Int32, (∀ i, i < n.toNatClampNeg → a i = b i) → E a = E b) (b : vld n v = true) (c : ∀ i, i < n.toNatClampNeg → sg i = dig n v i) (d : kl = bsL E n v) (e : kl = 41 ∨ ∀ i, i < n.toNatClampNeg → bg i = dig n (bsI E n v) i) (he : en = E sg) (hc : (en < kl ∧ kl2 = en ∧ ∀ i, i < n.toNatClampNeg → bg2 i = sg i) ∨ (¬ en < kl ∧ kl2 = kl ∧ bg2 = bg)) : kl2 = bsL E n (v + 1) ∧ (kl2 = 41 ∨ ∀ i, i < n.toNatClampNeg → bg2 i = dig n (bsI E n (v + 1)) i) := by
  have e1 : en = E (dig n v) := by rw [he, hEr _ _ c]
  rcases hc with ⟨q1, q2, q3⟩ | ⟨q1, q2, q3⟩
  · have q : vld n v = true ∧ E (dig n v) < bsL E n v := ⟨b, by rw [← e1, ← d]; exact q1⟩
    have x1 : bsL E n (v + 1) = E (dig n v) := if_pos q
    have x2 : bsI E n (v + 1) = v := if_pos q
    rw [x1, x2]
    exact ⟨by rw [q2, e1], Or.inr (fun i hi => by rw [q3 i hi, c i hi])⟩
  · have q : ¬ (vld n v = true ∧ E (dig n v) < bsL E n v) := fun z => q1 (by rw [e1, d]; exact z.2)
    have x1 : bsL E n (v + 1) = bsL E n v := if_neg q
    have x2 : bsI E n (v + 1) = bsI E n v := if_neg q
    rw [x1, x2, q2, q3]
    exact ⟨d, e⟩
theorem bst_nx {E : (Nat → Int32) → Int32} {n : Int32} {sg bg bg2 sg2 : Nat → Int32} {kl kl2 k k2 en : Int32} (h0 : ¬ n = 0) (h1 : 0 ≤ n) (h2 : n ≤ 5) (hEr : ∀ a b : Nat → Int32, (∀ i, i < n.toNatClampNeg → a i = b i) → E a = E b) (h : bst E n sg kl bg k) (he : en = E sg) (hc : (en < kl ∧ kl2 = en ∧ ∀ i, i < n.toNatClampNeg → bg2 i = sg i) ∨ (¬ en < kl ∧ kl2 = kl ∧ bg2 = bg)) (hp : ¬ pv sg (n.toNatClampNeg - 1) = 0) (hs : sg2 = nxF sg n.toNatClampNeg) (hk : k2 = k + 1) : bst E n sg2 kl2 bg2 k2 := by
  obtain ⟨v, a, b, c, d, e, g⟩ := h
  have m := bst_mid hEr b c d e he hc (k := k)
  have hn := cl_mono (k := 0) (n := n) (by decide) (by grind)
  have hx := nxF_eq (f := sg) (g := dig n v) (n := n.toNatClampNeg) (by omega) c
  rcases nxt_ok h0 h1 h2 b a with q | q
  · exact absurd q.1 (by rw [← hx.1]; exact hp)
  · obtain ⟨_, u, u1, u2, u3, u4, u5⟩ := q
    have bt := bs_to (E := E) (n := n) (a := v + 1) (b := u) (by omega) (fun t ht => u4 t (by omega))
    have rt := rk_to (n := n) (a := v + 1) (b := u) (by omega) (fun t ht => u4 t (by omega))
    refine ⟨u, u2, u3, fun i hi => ?_, ?_, ?_, ?_⟩
    · rw [hs, hx.2 i hi, u5 i hi]
    · rw [bt.1]
      exact m.1
    · rw [bt.2]
      exact m.2
    · have r1 : rkN n (v + 1) = rkN n v + 1 := if_pos b
      rw [rt, r1, hk, g, nI_1]
theorem bst_la {E : (Nat → Int32) → Int32} {n : Int32} {sg bg bg2 : Nat → Int32} {kl kl2 k en : Int32} (h0 : ¬ n = 0) (h1 : 0 ≤ n) (h2 : n ≤ 5) (hEr : ∀ a b : Nat → Int32, (∀ i, i < n.toNatClampNeg → a i = b i) → E a = E b) (hE : ∀ g, E g ≤ 40) (h : bst E n sg kl bg k) (he : en = E sg) (hc : (en < kl ∧ kl2 = en ∧ ∀ i, i < n.toNatClampNeg → bg2 i = sg i) ∨ (¬ en < kl ∧ kl2 = kl ∧ bg2 = bg)) (hp : pv sg (n.toNatClampNeg - 1) = 0) : ∀ i, i < n.toNatClampNeg → bg2 i = dig n (bsI E n (pwN n)) i := by
  obtain ⟨v, a, b, c, d, e, g⟩ := h
  have m := bst_mid hEr b c d e he hc (k := k)
  have hn := cl_mono (k := 0) (n := n) (by decide) (by grind)
  have hx := nxF_eq (f := sg) (g := dig n v) (n := n.toNatClampNeg) (by omega) c
  rcases nxt_ok h0 h1 h2 b a with q | q
  · have bt := bs_to (E := E) (n := n) (a := v + 1) (b := pwN n) (by omega) (fun t ht => q.2 t (by omega))
    have l := bs_le (E := E) b (v + 1) (by omega)
    have l2 := hE (dig n v)
    rw [bt.2]
    rcases m.2 with z | z
    · rw [← m.1, z] at l
      exact absurd l (by grind)
    · exact z
  · exact absurd hp (by rw [hx.1]; exact q.1)
