/-! ===== what leads what: pure words ===== -/
def rch (M : Nat → Nat → Int32) (n x y : Nat) : Prop := ∀ S : Nat → Prop, S x → (∀ a b, a < n → b < n → S a → ¬ M a b = -1 → S b) → S y
theorem rch_rf {M : Nat → Nat → Int32} {n x : Nat} : rch M n x x := fun _ h _ => h
theorem rch_st {M : Nat → Nat → Int32} {n x a b : Nat} (h : rch M n x a) (ha : a < n) (hb : b < n) (e : ¬ M a b = -1) : rch M n x b := fun S hx hc => hc a b ha hb (h S hx hc) e
theorem rch_tr {M : Nat → Nat → Int32} {n x y z : Nat} (h1 : rch M n x y) (h2 : rch M n y z) : rch M n x z := h2 (rch M n x) h1 (fun _ _ ha hb h e => rch_st h ha hb e)
theorem rch_lt {M : Nat → Nat → Int32} {n x y : Nat} (h : rch M n x y) (hx : x < n) : y < n := h (fun v => v < n) hx (fun _ _ _ hb _ _ => hb)
theorem rch_eq {M M2 : Nat → Nat → Int32} {n x y : Nat} (e : ∀ a b, a < n → b < n → M a b = M2 a b) (h : rch M n x y) : rch M2 n x y := fun S hx hc => h S hx (fun a b ha hb hs hm => hc a b ha hb hs (by rw [← e a b ha hb]; exact hm))
def okLd (M : Nat → Nat → Int32) : Prop := ∀ a b, a < 10 → b < 10 → M a b = -1 ∨ (0 ≤ M a b ∧ M a b ≤ 9)
def mx (a b : Int32) : Int32 := if a < b then b else a
def r1 (M : Nat → Nat → Int32) (a : Nat) (w : Nat → Int32) : Nat → Nat → Int32
  | 0 => w
  | b + 1 => if ¬ r1 M a w b a = -1 ∧ ¬ M a b = -1 then upd (r1 M a w b) b (mx (r1 M a w b b) (r1 M a w b a + M a b)) else r1 M a w b
def r2 (M : Nat → Nat → Int32) (n : Nat) (w : Nat → Int32) : Nat → Nat → Int32
  | 0 => w
  | a + 1 => r1 M a (r2 M n w a) n
def r3 (M : Nat → Nat → Int32) (n : Nat) (w : Nat → Int32) : Nat → Nat → Int32
  | 0 => w
  | t + 1 => r2 M n (r3 M n w t) n
theorem r1_s {M : Nat → Nat → Int32} {a : Nat} {w : Nat → Int32} {k v : Int32} (h0 : 0 ≤ k) (h1 : k < 1000) (e : v = k + 1) : r1 M a w v.toNatClampNeg = if ¬ r1 M a w k.toNatClampNeg a = -1 ∧ ¬ M a k.toNatClampNeg = -1 then upd (r1 M a w k.toNatClampNeg) k.toNatClampNeg (mx (r1 M a w k.toNatClampNeg k.toNatClampNeg) (r1 M a w k.toNatClampNeg a + M a k.toNatClampNeg)) else r1 M a w k.toNatClampNeg := by
  rw [e, cl_s h0 h1]
  rfl
theorem r2_s {M : Nat → Nat → Int32} {n : Nat} {w : Nat → Int32} {k v : Int32} (h0 : 0 ≤ k) (h1 : k < 1000) (e : v = k + 1) : r2 M n w v.toNatClampNeg = r1 M k.toNatClampNeg (r2 M n w k.toNatClampNeg) n := by
  rw [e, cl_s h0 h1]
  rfl
theorem r3_s {M : Nat → Nat → Int32} {n : Nat} {w : Nat → Int32} {k v : Int32} (h0 : 0 ≤ k) (h1 : k < 1000) (e : v = k + 1) : r3 M n w v.toNatClampNeg = r2 M n (r3 M n w k.toNatClampNeg) n := by
  rw [e, cl_s h0 h1]
  rfl
theorem upd_at {f : Nat → Int32} {j : Nat} {v : Int32} : upd f j v j = v := by simp [upd]
theorem upd_ne {f : Nat → Int32} {i j : Nat} {v : Int32} (h : ¬ i = j) : upd f j v i = f i := by simp [upd, h]
theorem upd_self {f : Nat → Int32} {j : Nat} : upd f j (f j) = f := by
  funext i
  unfold upd
  split
  · rename_i h
    rw [h]
  · rfl
/-- -1, or within 0 .. c -/
def okW (w : Nat → Int32) (n c : Nat) : Prop := ∀ i, i < n → w i = -1 ∨ (0 ≤ w i ∧ w i ≤ nI c)
theorem okW_le {w : Nat → Int32} {n c c2 : Nat} (h : okW w n c) (hc : c ≤ c2) (h2 : c2 < 20000) : okW w n c2 := by
  intro i hi
  rcases h i hi with e | e
  · exact Or.inl e
  · exact Or.inr ⟨e.1, Int32.le_trans e.2 (nI_le hc (by omega))⟩
theorem mx_b {x y m C : Int32} (hx : x = -1 ∨ (0 ≤ x ∧ x ≤ C)) (hy : 0 ≤ y ∧ y ≤ C) (hm : 0 ≤ m ∧ m ≤ 9) (hC : C ≤ 20000) (hC0 : 0 ≤ C) : 0 ≤ mx x (y + m) ∧ mx x (y + m) ≤ C + 9 ∧ y + m ≤ mx x (y + m) ∧ x ≤ mx x (y + m) := by
  unfold mx
  have h1 : 0 ≤ y + m ∧ y + m ≤ C + 9 ∧ C ≤ C + 9 := by
    refine ⟨?_, ?_, ?_⟩ <;> grind
  split
  · refine ⟨h1.1, h1.2.1, ?_, ?_⟩ <;> grind
  · refine ⟨?_, ?_, ?_, ?_⟩ <;> grind
theorem nI9 (c : Nat) : nI c + 9 = nI (c + 9) := by
  rw [show (9 : Int32) = nI 9 from rfl, nI_add]
theorem nI_b {c : Nat} (h : c < 20000) : nI c ≤ 20000 ∧ 0 ≤ nI c := ⟨nI_le (a := c) (b := 20000) (by omega) (by omega), nI_pos' (by omega)⟩
theorem r1_ok {M : Nat → Nat → Int32} {n a c : Nat} {w : Nat → Int32} (hM : okLd M) (hn : n ≤ 10) (ha : a < n) (h : okW w n c) : ∀ k, k ≤ n → c + 9 * k < 20000 → okW (r1 M a w k) n (c + 9 * k)
  | 0, _, _ => h
  | k + 1, hk, hc => by
    have ih := r1_ok hM hn ha h k (by omega) (by omega)
    have hb := nI_b (c := c + 9 * k) (by omega)
    show okW (if ¬ r1 M a w k a = -1 ∧ ¬ M a k = -1 then upd (r1 M a w k) k (mx (r1 M a w k k) (r1 M a w k a + M a k)) else r1 M a w k) n (c + 9 * (k + 1))
    split
    · rename_i hcnd
      have y := (ih a ha).resolve_left hcnd.1
      have m := (hM a k (by omega) (by omega)).resolve_left hcnd.2
      have q := mx_b (ih k (by omega)) y m hb.1 hb.2
      rw [nI9, show c + 9 * k + 9 = c + 9 * (k + 1) by omega] at q
      intro i hi
      by_cases e : i = k
      · rw [e, upd_at]
        exact Or.inr ⟨q.1, q.2.1⟩
      · rw [upd_ne e]
        exact okW_le ih (by omega) (by omega) i hi
    · exact okW_le ih (by omega) (by omega)
theorem r2_ok {M : Nat → Nat → Int32} {n c : Nat} {w : Nat → Int32} (hM : okLd M) (hn : n ≤ 10) (h : okW w n c) : ∀ k, k ≤ n → c + 90 * k < 20000 → okW (r2 M n w k) n (c + 90 * k)
  | 0, _, _ => h
  | k + 1, hk, hc => by
    have ih := r2_ok hM hn h k (by omega) (by omega)
    have := r1_ok hM hn (a := k) (by omega) ih n (Nat.le_refl _) (by omega)
    exact okW_le this (by omega) (by omega)
theorem r3_ok {M : Nat → Nat → Int32} {n : Nat} {w : Nat → Int32} (hM : okLd M) (hn : n ≤ 10) (h : okW w n 0) : ∀ t, t ≤ 10 → okW (r3 M n w t) n (900 * t)
  | 0, _ => h
  | t + 1, ht => by
    have ih := r3_ok hM hn h t (by omega)
    have := r2_ok hM hn ih n (Nat.le_refl _) (by omega)
    exact okW_le this (by omega) (by omega)
/-- what has a value keeps one, never a smaller one -/
theorem r1_up {M : Nat → Nat → Int32} {n a c : Nat} {w : Nat → Int32} (hM : okLd M) (hn : n ≤ 10) (ha : a < n) (h : okW w n c) : ∀ k, k ≤ n → c + 9 * k < 20000 → ∀ i, i < n → w i ≤ r1 M a w k i
  | 0, _, _, i, _ => Int32.le_refl _
  | k + 1, hk, hc, i, hi => by
    have ih := r1_up hM hn ha h k (by omega) (by omega) i hi
    have ok := r1_ok hM hn ha h k (by omega) (by omega)
    have hb := nI_b (c := c + 9 * k) (by omega)
    show w i ≤ (if ¬ r1 M a w k a = -1 ∧ ¬ M a k = -1 then upd (r1 M a w k) k (mx (r1 M a w k k) (r1 M a w k a + M a k)) else r1 M a w k) i
    split
    · rename_i hcnd
      have y := (ok a ha).resolve_left hcnd.1
      have m := (hM a k (by omega) (by omega)).resolve_left hcnd.2
      have q := mx_b (ok k (by omega)) y m hb.1 hb.2
      by_cases e : i = k
      · rw [e, upd_at]
        rw [e] at ih
        exact Int32.le_trans ih q.2.2.2
      · rw [upd_ne e]
        exact ih
    · exact ih
theorem r2_up {M : Nat → Nat → Int32} {n c : Nat} {w : Nat → Int32} (hM : okLd M) (hn : n ≤ 10) (h : okW w n c) : ∀ k, k ≤ n → c + 90 * k < 20000 → ∀ i, i < n → w i ≤ r2 M n w k i
  | 0, _, _, i, _ => Int32.le_refl _
  | k + 1, hk, hc, i, hi => Int32.le_trans (r2_up hM hn h k (by omega) (by omega) i hi) (r1_up hM hn (by omega) (r2_ok hM hn h k (by omega) (by omega)) n (Nat.le_refl _) (by omega) i hi)
theorem ne_up {w v : Nat → Int32} {n c i : Nat} (hw : okW w n c) (hi : i < n) (h : w i ≤ v i) (e : ¬ w i = -1) : ¬ v i = -1 := by
  have := (hw i hi).resolve_left e
  grind
/-- an edge of what has a value -/
theorem r1_ed {M : Nat → Nat → Int32} {n a c : Nat} {w : Nat → Int32} (hM : okLd M) (hn : n ≤ 10) (ha : a < n) (h : okW w n c) (hw : ¬ w a = -1) : ∀ k, k ≤ n → c + 9 * k < 20000 → ∀ b, b < k → ¬ M a b = -1 → w a + M a b ≤ r1 M a w k b ∧ ¬ r1 M a w k b = -1
  | 0, _, _, b, hb, _ => absurd hb (Nat.not_lt_zero _)
  | k + 1, hk, hc, b, hb, e => by
    have ok := r1_ok hM hn ha h k (by omega) (by omega)
    have up := r1_up hM hn ha h k (by omega) (by omega) a ha
    have wa := (h a ha).resolve_left hw
    have hna : ¬ r1 M a w k a = -1 := ne_up h ha up hw
    have hbb := nI_b (c := c + 9 * k) (by omega)
    show w a + M a b ≤ (if ¬ r1 M a w k a = -1 ∧ ¬ M a k = -1 then upd (r1 M a w k) k (mx (r1 M a w k k) (r1 M a w k a + M a k)) else r1 M a w k) b ∧ ¬ (if ¬ r1 M a w k a = -1 ∧ ¬ M a k = -1 then upd (r1 M a w k) k (mx (r1 M a w k k) (r1 M a w k a + M a k)) else r1 M a w k) b = -1
    by_cases hbk : b = k
    · subst hbk
      rw [if_pos ⟨hna, e⟩, upd_at]
      have y := (ok a ha).resolve_left hna
      have m := (hM a b (by omega) (by omega)).resolve_left e
      have q := mx_b (ok b (by omega)) y m hbb.1 hbb.2
      have q1 : w a + M a b ≤ r1 M a w b a + M a b := by
        have := hbb.1
        generalize nI (c + 9 * b) = C at *
        grind
      exact ⟨Int32.le_trans q1 q.2.2.1, by grind⟩
    · have ih := r1_ed hM hn ha h hw k (by omega) (by omega) b (by omega) e
      split
      · rw [upd_ne hbk]
        exact ih
      · exact ih
theorem r2_ed {M : Nat → Nat → Int32} {n c : Nat} {w : Nat → Int32} (hM : okLd M) (hn : n ≤ 10) (h : okW w n c) : ∀ k, k ≤ n → c + 90 * k < 20000 → ∀ a b, a < k → b < n → ¬ w a = -1 → ¬ M a b = -1 → w a + M a b ≤ r2 M n w k b ∧ ¬ r2 M n w k b = -1
  | 0, _, _, a, b, ha, _, _, _ => absurd ha (Nat.not_lt_zero _)
  | k + 1, hk, hc, a, b, ha, hb, hw, e => by
    have ok := r2_ok hM hn h k (by omega) (by omega)
    have up := r2_up hM hn h k (by omega) (by omega)
    by_cases hak : a = k
    · subst hak
      have hna := ne_up h (by omega) (up a (by omega)) hw
      have q := r1_ed hM hn (by omega) ok hna n (Nat.le_refl _) (by omega) b hb e
      have wa := (h a (by omega)).resolve_left hw
      have ya := (ok a (by omega)).resolve_left hna
      have m := (hM a b (by omega) (by omega)).resolve_left e
      have ua := up a (by omega)
      refine ⟨Int32.le_trans ?_ q.1, q.2⟩
      have hbb := (nI_b (c := c + 90 * a) (by omega)).1
      generalize nI (c + 90 * a) = C at *
      grind
    · have ih := r2_ed hM hn h k (by omega) (by omega) a b (by omega) hb hw e
      have u1 := r1_up hM hn (a := k) (by omega) ok n (Nat.le_refl _) (by omega) b hb
      exact ⟨Int32.le_trans ih.1 u1, ne_up ok hb u1 ih.2⟩
/-- nothing comes in that isn't led to -/
theorem r1_in {M : Nat → Nat → Int32} {n a : Nat} {w : Nat → Int32} {P : Nat → Prop} (hP : ∀ a b, a < n → b < n → P a → ¬ M a b = -1 → P b) (ha : a < n) (h : ∀ i, i < n → ¬ w i = -1 → P i) : ∀ k, k ≤ n → ∀ i, i < n → ¬ r1 M a w k i = -1 → P i
  | 0, _, i, hi, e => h i hi e
  | k + 1, hk, i, hi, e => by
    have ih := r1_in hP ha h k (by omega)
    have e2 : ¬ (if ¬ r1 M a w k a = -1 ∧ ¬ M a k = -1 then upd (r1 M a w k) k (mx (r1 M a w k k) (r1 M a w k a + M a k)) else r1 M a w k) i = -1 := e
    by_cases hc : ¬ r1 M a w k a = -1 ∧ ¬ M a k = -1
    · rw [if_pos hc] at e2
      by_cases hik : i = k
      · rw [hik]
        exact hP a k ha (by omega) (ih a ha hc.1) hc.2
      · rw [upd_ne hik] at e2
        exact ih i hi e2
    · rw [if_neg hc] at e2
      exact ih i hi e2
theorem r2_in {M : Nat → Nat → Int32} {n : Nat} {w : Nat → Int32} {P : Nat → Prop} (hP : ∀ a b, a < n → b < n → P a → ¬ M a b = -1 → P b) (h : ∀ i, i < n → ¬ w i = -1 → P i) : ∀ k, k ≤ n → ∀ i, i < n → ¬ r2 M n w k i = -1 → P i
  | 0, _, i, hi, e => h i hi e
  | k + 1, hk, i, hi, e => r1_in hP (a := k) (by omega) (r2_in hP h k (by omega)) n (Nat.le_refl _) i hi e
theorem r3_in {M : Nat → Nat → Int32} {n : Nat} {w : Nat → Int32} {P : Nat → Prop} (hP : ∀ a b, a < n → b < n → P a → ¬ M a b = -1 → P b) (h : ∀ i, i < n → ¬ w i = -1 → P i) : ∀ t, ∀ i, i < n → ¬ r3 M n w t i = -1 → P i
  | 0, i, hi, e => h i hi e
  | t + 1, i, hi, e => r2_in hP (r3_in hP h t) n (Nat.le_refl _) i hi e
/-- how many -/
def cP (p : Nat → Bool) : Nat → Nat
  | 0 => 0
  | k + 1 => cP p k + (if p k = true then 1 else 0)
theorem cP_le (p : Nat → Bool) : ∀ k, cP p k ≤ k
  | 0 => Nat.le_refl _
  | k + 1 => by
    have := cP_le p k
    show cP p k + (if p k = true then 1 else 0) ≤ k + 1
    split <;> omega
theorem cP_mono {p q : Nat → Bool} : ∀ k, (∀ i, i < k → p i = true → q i = true) → cP p k ≤ cP q k
  | 0, _ => Nat.le_refl _
  | k + 1, h => by
    have ih := cP_mono k (fun i hi => h i (by omega))
    have hk := h k (by omega)
    show cP p k + (if p k = true then 1 else 0) ≤ cP q k + (if q k = true then 1 else 0)
    by_cases hp : p k = true
    · rw [if_pos hp, if_pos (hk hp)]
      omega
    · rw [if_neg hp]
      omega
theorem cP_lt {p q : Nat → Bool} {j : Nat} (hp : ¬ p j = true) (hq : q j = true) : ∀ k, j < k → (∀ i, i < k → p i = true → q i = true) → cP p k < cP q k
  | 0, hj, _ => absurd hj (Nat.not_lt_zero _)
  | k + 1, hj, h => by
    show cP p k + (if p k = true then 1 else 0) < cP q k + (if q k = true then 1 else 0)
    by_cases e : j = k
    · subst e
      have := cP_mono (p := p) (q := q) j (fun i hi => h i (by omega))
      rw [if_neg hp, if_pos hq]
      omega
    · have ih := cP_lt hp hq k (by omega) (fun i hi => h i (by omega))
      by_cases hpk : p k = true
      · rw [if_pos hpk, if_pos (h k (by omega) hpk)]
        omega
      · rw [if_neg hpk]
        omega
theorem cP_full {p : Nat → Bool} {k : Nat} (h : k ≤ cP p k) : ∀ i, i < k → p i = true := by
  intro i hi
  by_cases hp : p i = true
  · exact hp
  · have h1 := cP_lt (p := p) (q := fun _ => true) (j := i) hp rfl k hi (fun _ _ _ => rfl)
    have h2 := cP_le (fun _ => true) k
    omega
theorem cP_pos {p : Nat → Bool} {k j : Nat} (hj : j < k) (hp : p j = true) : 1 ≤ cP p k := by
  have h1 := cP_lt (p := fun _ => false) (q := p) (j := j) (by decide) hp k hj (fun i _ h => absurd h (by decide))
  omega
def mB (w : Nat → Int32) : Nat → Bool := fun i => !(w i == -1)
theorem mB_iff {w : Nat → Int32} {i : Nat} : mB w i = true ↔ ¬ w i = -1 := by
  unfold mB
  simp
/-- every piece that is led to has a value, or there are many values -/
theorem r3_cov {M : Nat → Nat → Int32} {n x : Nat} {w : Nat → Int32} (hM : okLd M) (hn : n ≤ 10) (hx : x < n) (h : okW w n 0) (hwx : ¬ w x = -1) : ∀ t, t ≤ 10 → ¬ r3 M n w t x = -1 ∧ ((∀ y, rch M n x y → ¬ r3 M n w t y = -1) ∨ t + 1 ≤ cP (mB (r3 M n w t)) n)
  | 0, _ => ⟨hwx, Or.inr (cP_pos hx (mB_iff.mpr hwx))⟩
  | t + 1, ht => by
    obtain ⟨i1, i2⟩ := r3_cov hM hn hx h hwx t (by omega)
    have ok := r3_ok hM hn h t (by omega)
    have up := r2_up hM hn ok n (Nat.le_refl _) (by omega)
    have ed := r2_ed hM hn ok n (Nat.le_refl _) (by omega)
    have keep : ∀ i, i < n → ¬ r3 M n w t i = -1 → ¬ r2 M n (r3 M n w t) n i = -1 := fun i hi e => ne_up ok hi (up i hi) e
    refine ⟨keep x hx i1, ?_⟩
    show (∀ y, rch M n x y → ¬ r2 M n (r3 M n w t) n y = -1) ∨ t + 1 + 1 ≤ cP (mB (r2 M n (r3 M n w t) n)) n
    rcases i2 with i2 | i2
    · exact Or.inl (fun y hy => keep y (rch_lt hy hx) (i2 y hy))
    · by_cases hall : ∀ i, i < n → ¬ r2 M n (r3 M n w t) n i = -1 → ¬ r3 M n w t i = -1
      · refine Or.inl (fun y hy => ?_)
        have hyn := rch_lt hy hx
        refine (hy (fun v => v < n ∧ ¬ r3 M n w t v = -1) ⟨hx, i1⟩ (fun a b ha hb hs e => ⟨hb, ?_⟩)).2 |> keep y hyn
        exact hall b hb (ed a b ha hb hs.2 e).2
      · refine Or.inr ?_
        have : ∃ i, i < n ∧ ¬ r2 M n (r3 M n w t) n i = -1 ∧ r3 M n w t i = -1 := by
          apply Classical.byContradiction
          intro hne
          refine hall (fun i hi e1 e2 => hne ⟨i, hi, e1, e2⟩)
        obtain ⟨i, hi, e1, e2⟩ := this
        have := cP_lt (p := mB (r3 M n w t)) (q := mB (r2 M n (r3 M n w t) n)) (j := i) (fun q => mB_iff.mp q e2) (mB_iff.mpr e1) n hi (fun j hj hp => mB_iff.mpr (keep j hj (mB_iff.mp hp)))
        omega
theorem lead_iff {M : Nat → Nat → Int32} {n x y : Nat} {w : Nat → Int32} (hM : okLd M) (hn : n ≤ 10) (hx : x < n) (hy : y < n) (h0 : ∀ i, i < n → ¬ i = x → w i = -1) (h1 : w x = 0) : ¬ r3 M n w (n - 1) y = -1 ↔ rch M n x y := by
  have ok : okW w n 0 := by
    intro i hi
    by_cases e : i = x
    · rw [e, h1]
      exact Or.inr ⟨by decide, by decide⟩
    · exact Or.inl (h0 i hi e)
  have hwx : ¬ w x = -1 := by
    rw [h1]
    decide
  constructor
  · intro h
    refine r3_in (M := M) (n := n) (w := w) (P := rch M n x) (fun a b ha hb hs e => rch_st hs ha hb e) (fun i hi e => ?_) (n - 1) y hy h
    by_cases e2 : i = x
    · rw [e2]
      exact rch_rf
    · exact absurd (h0 i hi e2) e
  · intro h
    rcases (r3_cov hM hn hx ok hwx (n - 1) (by omega)).2 with h2 | h2
    · exact h2 y h
    · exact mB_iff.mp (cP_full (p := mB (r3 M n w (n - 1))) (k := n) (by omega) y hy)
/-! no piece leads itself -/
def acy (M : Nat → Nat → Int32) (n : Nat) : Prop := ∀ a b, a < n → b < n → ¬ M a b = -1 → ¬ rch M n b a
theorem acy_rank {M : Nat → Nat → Int32} {n : Nat} (h : acy M n) : ∃ ρ : Nat → Nat, (∀ v, v < n → ρ v < n) ∧ ∀ a b, a < n → b < n → ¬ M a b = -1 → ρ a < ρ b := by
  have dec : ∃ p : Nat → Nat → Bool, ∀ v u, p v u = true ↔ (¬ u = v ∧ rch M n u v) := by
    refine ⟨fun v u => @decide (¬ u = v ∧ rch M n u v) (Classical.propDecidable _), fun v u => ?_⟩
    exact @decide_eq_true_iff _ (Classical.propDecidable _)
  obtain ⟨p, hp⟩ := dec
  refine ⟨fun v => cP (p v) n, fun v hv => ?_, fun a b ha hb e => ?_⟩
  · have h1 := cP_lt (p := p v) (q := fun _ => true) (j := v) (fun q => ((hp v v).mp q).1 rfl) rfl n hv (fun _ _ _ => rfl)
    have h2 := cP_le (fun _ => true) n
    show cP (p v) n < n
    omega
  · have hab : ¬ a = b := fun q => h a b ha hb e (by rw [q]; exact rch_rf)
    refine cP_lt (p := p a) (q := p b) (j := a) (fun q => ((hp a a).mp q).1 rfl) ((hp b a).mpr ⟨hab, rch_st rch_rf ha hb e⟩) n ha (fun i hi q => ?_)
    have q2 := (hp a i).mp q
    refine (hp b i).mpr ⟨fun z => h a b ha hb e (by rw [← z]; exact q2.2), rch_st q2.2 ha hb e⟩
/-- all up to a rank -/
def stb (M : Nat → Nat → Int32) (n : Nat) (ρ : Nat → Nat) (k : Nat) (w : Nat → Int32) : Prop := ∀ a b, a < n → b < n → ¬ M a b = -1 → ρ b ≤ k → w a + M a b ≤ w b
theorem mx_id {x y : Int32} (h : y ≤ x) : mx x y = x := by
  unfold mx
  rw [if_neg (by grind)]
theorem r1_fix {M : Nat → Nat → Int32} {n a k : Nat} {ρ : Nat → Nat} {w u : Nat → Int32} (hr : ∀ a b, a < n → b < n → ¬ M a b = -1 → ρ a < ρ b) (hs : stb M n ρ k w) (ha : a < n) (hu : ∀ v, v < n → ρ v ≤ k → u v = w v) : ∀ j, j ≤ n → ∀ v, v < n → ρ v ≤ k → r1 M a u j v = w v
  | 0, _, v, hv, e => hu v hv e
  | j + 1, hj, v, hv, e => by
    have ih := r1_fix hr hs ha hu j (by omega)
    show (if ¬ r1 M a u j a = -1 ∧ ¬ M a j = -1 then upd (r1 M a u j) j (mx (r1 M a u j j) (r1 M a u j a + M a j)) else r1 M a u j) v = w v
    split
    · rename_i hc
      by_cases hvj : v = j
      · subst hvj
        have hav := hr a v ha hv hc.2
        rw [upd_at, ih v hv e, ih a ha (by omega), mx_id (hs a v ha hv hc.2 e)]
      · rw [upd_ne hvj]
        exact ih v hv e
    · exact ih v hv e
theorem r2_fix {M : Nat → Nat → Int32} {n k : Nat} {ρ : Nat → Nat} {w : Nat → Int32} (hr : ∀ a b, a < n → b < n → ¬ M a b = -1 → ρ a < ρ b) (hs : stb M n ρ k w) : ∀ j, j ≤ n → ∀ v, v < n → ρ v ≤ k → r2 M n w j v = w v
  | 0, _, v, hv, e => rfl
  | j + 1, hj, v, hv, e => r1_fix hr hs (a := j) (by omega) (r2_fix hr hs j (by omega)) n (Nat.le_refl _) v hv e
theorem r3_stb {M : Nat → Nat → Int32} {n : Nat} {ρ : Nat → Nat} {w : Nat → Int32} (hM : okLd M) (hn : n ≤ 10) (hr : ∀ a b, a < n → b < n → ¬ M a b = -1 → ρ a < ρ b) (h : okW w n 0) (h0 : ∀ i, i < n → ¬ w i = -1) : ∀ t, t ≤ 10 → stb M n ρ t (r3 M n w t) ∧ ∀ i, i < n → ¬ r3 M n w t i = -1
  | 0, _ => ⟨fun a b ha hb e hk => absurd (hr a b ha hb e) (by omega), h0⟩
  | t + 1, ht => by
    obtain ⟨s1, s2⟩ := r3_stb hM hn hr h h0 t (by omega)
    have ok := r3_ok hM hn h t (by omega)
    have up := r2_up hM hn ok n (Nat.le_refl _) (by omega)
    have ed := r2_ed hM hn ok n (Nat.le_refl _) (by omega)
    have fx := r2_fix hr s1 n (Nat.le_refl _)
    refine ⟨fun a b ha hb e hk => ?_, fun i hi => ne_up ok hi (up i hi) (s2 i hi)⟩
    have hab := hr a b ha hb e
    show r2 M n (r3 M n w t) n a + M a b ≤ r2 M n (r3 M n w t) n b
    rw [fx a ha (by omega)]
    exact (ed a b ha hb (s2 a ha) e).1
theorem r1_id {M : Nat → Nat → Int32} {n a : Nat} {w : Nat → Int32} (ha : a < n) (hs : ∀ b, b < n → ¬ M a b = -1 → w a + M a b ≤ w b) : ∀ k, k ≤ n → r1 M a w k = w
  | 0, _ => rfl
  | k + 1, hk => by
    have ih := r1_id ha hs k (by omega)
    show (if ¬ r1 M a w k a = -1 ∧ ¬ M a k = -1 then upd (r1 M a w k) k (mx (r1 M a w k k) (r1 M a w k a + M a k)) else r1 M a w k) = w
    rw [ih]
    split
    · rename_i hc
      rw [mx_id (hs k (by omega) hc.2), upd_self]
    · rfl
theorem r2_id {M : Nat → Nat → Int32} {n : Nat} {w : Nat → Int32} (hs : ∀ a b, a < n → b < n → ¬ M a b = -1 → w a + M a b ≤ w b) : ∀ k, k ≤ n → r2 M n w k = w
  | 0, _ => rfl
  | k + 1, hk => by
    have ih := r2_id hs k (by omega)
    show r1 M k (r2 M n w k) n = w
    rw [ih]
    exact r1_id (by omega) (fun b hb e => hs k b (by omega) hb e) n (Nat.le_refl _)
/-- one round more changes nothing -/
theorem r3_more {M : Nat → Nat → Int32} {n : Nat} {w : Nat → Int32} (hM : okLd M) (hn : n ≤ 10) (ha : acy M n) (h0 : ∀ i, i < n → w i = 0) : r3 M n w n = r3 M n w (n - 1) := by
  obtain ⟨ρ, h1, h2⟩ := acy_rank ha
  have ok : okW w n 0 := fun i hi => Or.inr (by rw [h0 i hi]; exact ⟨by decide, by decide⟩)
  have s := (r3_stb hM hn h2 ok (fun i hi => by rw [h0 i hi]; decide) (n - 1) (by omega)).1
  cases n with
  | zero => rfl
  | succ m =>
    show r2 M (m + 1) (r3 M (m + 1) w m) (m + 1) = r3 M (m + 1) w m
    exact r2_id (fun a b ha hb e => s a b ha hb e (by have := h1 b hb; omega)) (m + 1) (Nat.le_refl _)
/-- the greatest -/
def mxF (w : Nat → Int32) : Nat → Int32
  | 0 => 0
  | k + 1 => mx (mxF w k) (w k)
theorem mxF_s {w : Nat → Int32} {k v : Int32} (h0 : 0 ≤ k) (h1 : k < 1000) (e : v = k + 1) : mxF w v.toNatClampNeg = mx (mxF w k.toNatClampNeg) (w k.toNatClampNeg) := by
  rw [e, cl_s h0 h1]
  rfl
theorem mxF_eq {w v : Nat → Int32} : ∀ k, (∀ i, i < k → w i = v i) → mxF w k = mxF v k
  | 0, _ => rfl
  | k + 1, h => by
    show mx (mxF w k) (w k) = mx (mxF v k) (v k)
    rw [mxF_eq k (fun i hi => h i (by omega)), h k (by omega)]
theorem r1_eq {M M2 : Nat → Nat → Int32} {n a : Nat} {w v : Nat → Int32} (e : ∀ a b, a < n → b < n → M a b = M2 a b) (ha : a < n) (h : ∀ i, i < n → w i = v i) : ∀ k, k ≤ n → ∀ i, i < n → r1 M a w k i = r1 M2 a v k i
  | 0, _, i, hi => h i hi
  | k + 1, hk, i, hi => by
    have ih := r1_eq e ha h k (by omega)
    show (if ¬ r1 M a w k a = -1 ∧ ¬ M a k = -1 then upd (r1 M a w k) k (mx (r1 M a w k k) (r1 M a w k a + M a k)) else r1 M a w k) i = (if ¬ r1 M2 a v k a = -1 ∧ ¬ M2 a k = -1 then upd (r1 M2 a v k) k (mx (r1 M2 a v k k) (r1 M2 a v k a + M2 a k)) else r1 M2 a v k) i
    rw [ih a ha, ih k (by omega), e a k ha (by omega)]
    split
    · by_cases hik : i = k
      · rw [hik, upd_at, upd_at]
      · rw [upd_ne hik, upd_ne hik]
        exact ih i hi
    · exact ih i hi
theorem r2_eq {M M2 : Nat → Nat → Int32} {n : Nat} {w v : Nat → Int32} (e : ∀ a b, a < n → b < n → M a b = M2 a b) (h : ∀ i, i < n → w i = v i) : ∀ k, k ≤ n → ∀ i, i < n → r2 M n w k i = r2 M2 n v k i
  | 0, _, i, hi => h i hi
  | k + 1, hk, i, hi => r1_eq e (a := k) (by omega) (r2_eq e h k (by omega)) n (Nat.le_refl _) i hi
theorem r3_eq {M M2 : Nat → Nat → Int32} {n : Nat} {w v : Nat → Int32} (e : ∀ a b, a < n → b < n → M a b = M2 a b) (h : ∀ i, i < n → w i = v i) : ∀ t, ∀ i, i < n → r3 M n w t i = r3 M2 n v t i
  | 0, i, hi => h i hi
  | t + 1, i, hi => r2_eq e (r3_eq e h t) n (Nat.le_refl _) i hi
theorem r3_n {M : Nat → Nat → Int32} {n : Nat} {w : Nat → Int32} {j v : Int32} (h1 : 1 ≤ j) (h2 : j < 1000) (e : v = j + 1) : r3 M n w (v.toNatClampNeg - 1) = r2 M n (r3 M n w (j.toNatClampNeg - 1)) n := by
  have hs := cl_s (k := j) (by grind) h2
  have hp := cl_mono (k := 0) (n := j) (by decide) (by grind)
  rw [e, hs, show j.toNatClampNeg + 1 - 1 = (j.toNatClampNeg - 1) + 1 by omega]
  rfl
theorem rnd_e {j n : Int32} (h0 : 0 ≤ n) (h : n ≤ j) (hb : j ≤ n ∨ j = 1) : j.toNatClampNeg - 1 = n.toNatClampNeg - 1 := by
  rcases hb with hb | hb
  · rw [show j = n by grind]
  · subst hb
    have h2 : n = 0 ∨ n = 1 := by grind
    rcases h2 with rfl | rfl <;> rfl
theorem r1_no {M : Nat → Nat → Int32} {a : Nat} {w ld : Nat → Int32} {k v : Int32} (h0 : 0 ≤ k) (h1 : k < 1000) (e : v = k + 1) (hd : ld = r1 M a w k.toNatClampNeg) (hm : M a k.toNatClampNeg = -1) : ld = r1 M a w v.toNatClampNeg := by
  rw [r1_s h0 h1 e, ← hd, if_neg (fun q => q.2 hm)]
theorem r1_lo {M : Nat → Nat → Int32} {a : Nat} {w ld : Nat → Int32} {k v : Int32} (h0 : 0 ≤ k) (h1 : k < 1000) (e : v = k + 1) (hd : ld = r1 M a w k.toNatClampNeg) (hm : ¬ M a k.toNatClampNeg = -1) (hc : ¬ ld k.toNatClampNeg < ld a + M a k.toNatClampNeg) : ld = r1 M a w v.toNatClampNeg := by
  rw [r1_s h0 h1 e, ← hd]
  split
  · rw [mx_id (by grind), upd_self]
  · rfl
theorem r1_hi {M : Nat → Nat → Int32} {a : Nat} {w ld : Nat → Int32} {k v s : Int32} (h0 : 0 ≤ k) (h1 : k < 1000) (e : v = k + 1) (hd : ld = r1 M a w k.toNatClampNeg) (hm : ¬ M a k.toNatClampNeg = -1) (hn : ¬ ld a = -1) (hc : ld k.toNatClampNeg < ld a + M a k.toNatClampNeg) (hs : s = ld a + M a k.toNatClampNeg) : upd ld k.toNatClampNeg s = r1 M a w v.toNatClampNeg := by
  rw [r1_s h0 h1 e, ← hd, if_pos ⟨hn, hm⟩, hs]
  unfold mx
  rw [if_pos hc]
theorem rr_ne {M : Nat → Nat → Int32} {n a t k : Nat} {w : Nat → Int32} (hM : okLd M) (hn : n ≤ 10) (h0 : ∀ i, i < n → w i = 0) (ht : t ≤ 10) (ha : a < n) (hk : k ≤ n) : ∀ i, i < n → ¬ r1 M a (r2 M n (r3 M n w t) a) k i = -1 := by
  have ok : okW w n 0 := fun i hi => Or.inr (by rw [h0 i hi]; exact ⟨by decide, by decide⟩)
  intro i hi
  have key : ∀ t, t ≤ 10 → ∀ i, i < n → ¬ r3 M n w t i = -1 := by
    intro t
    induction t with
    | zero => intro _ i hi; show ¬ w i = -1; rw [h0 i hi]; decide
    | succ t ih =>
      intro ht i hi
      have o3 := r3_ok hM hn ok t (by omega)
      exact ne_up o3 hi (r2_up hM hn o3 n (Nat.le_refl _) (by omega) i hi) (ih (by omega) i hi)
  have o3 := r3_ok hM hn ok t ht
  have o2 := r2_ok hM hn o3 a (by omega) (by omega)
  have n2 := ne_up o3 hi (r2_up hM hn o3 a (by omega) (by omega) i hi) (key t ht i hi)
  exact ne_up o2 hi (r1_up hM hn ha o2 k hk (by omega) i hi) n2
/-! all -1 at first -/
theorem mi_s {Mb N2 : Nat → Nat → Int32} {k : Nat} {j v : Int32} (h0 : 0 ≤ j) (h1 : j < 1000) (e : v = j + 1) (eM : N2 = va_up Mb k (upd (Mb k) j.toNatClampNeg (-1))) (h : (∀ i j : Nat, i < k → j < 10 → Mb i j = -1) ∧ ∀ q : Nat, q < j.toNatClampNeg → Mb k q = -1) : (∀ i j : Nat, i < k → j < 10 → N2 i j = -1) ∧ ∀ q : Nat, q < v.toNatClampNeg → N2 k q = -1 := by
  rw [e, cl_s h0 h1, eM]
  constructor
  · intro i q hi hq
    rw [va_up_ne _ _ (by omega)]
    exact h.1 i q hi hq
  · intro q hq
    rw [va_up_self]
    by_cases hj : q = j.toNatClampNeg
    · rw [hj, upd_at]
    · rw [upd_ne hj]
      exact h.2 q (by omega)
theorem mi_k {Mb : Nat → Nat → Int32} {k v j : Int32} (h0 : 0 ≤ k) (h1 : k < 1000) (e : v = k + 1) (hj : 10 ≤ j) (h : (∀ i j : Nat, i < k.toNatClampNeg → j < 10 → Mb i j = -1) ∧ ∀ q : Nat, q < j.toNatClampNeg → Mb k.toNatClampNeg q = -1) : ∀ i q : Nat, i < v.toNatClampNeg → q < 10 → Mb i q = -1 := by
  rw [e, cl_s h0 h1]
  intro i q hi hq
  have h10 : 10 ≤ j.toNatClampNeg := by
    have a := Int32.le_iff_toInt_le.mp hj
    have z : (10 : Int32).toInt = 10 := rfl
    show 10 ≤ j.toInt.toNat
    omega
  by_cases hk : i = k.toNatClampNeg
  · rw [hk]
    exact h.2 q (by omega)
  · exact h.1 i q (by omega) hq
theorem all_s {f : Nat → Int32} {k v c : Int32} (h0 : 0 ≤ k) (h1 : k < 1000) (e : v = k + 1) (h : ∀ i : Nat, i < k.toNatClampNeg → f i = c) : ∀ i : Nat, i < v.toNatClampNeg → upd f k.toNatClampNeg c i = c := by
  rw [e, cl_s h0 h1]
  intro i hi
  by_cases hk : i = k.toNatClampNeg
  · rw [hk, upd_at]
  · rw [upd_ne hk]
    exact h i (by omega)
theorem ge_cl {k M : Int32} {n i : Nat} (hM : M.toInt = n) (h : M ≤ k) (hi : i < n) : i < k.toNatClampNeg := by
  have a := Int32.le_iff_toInt_le.mp h
  show i < k.toInt.toNat
  omega
