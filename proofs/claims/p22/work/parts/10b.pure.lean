theorem law_ix {i L c : Nat} {k v : Int32} (ek : k = nI i) (h : i + c < L) (hL : L ≤ 3072) (e : v = k + nI c) : vp_in v L := by
  rw [e, ek, nI_add]
  exact vp_in_nI h (by omega)
theorem law_go {i L : Nat} {k : Int32} (ek : k = nI i) (hi : i ≤ L) (hL : L ≤ 3072) (h : ¬ Int32.ofNat L - 6 < k) : i + 6 ≤ L := by
  have e1 : (nI L - nI 6).toInt = (L : Int) - 6 := pk_sub_toInt (by omega) (by omega)
  have e2 : k.toInt = (i : Int) := by
    rw [ek]
    exact nI_toInt (by omega)
  have h2 : ¬ (nI L - nI 6).toInt < k.toInt := fun q => h (Int32.lt_iff_toInt_lt.mpr q)
  rw [e1, e2] at h2
  omega
theorem law_nx {i : Nat} {k v : Int32} (ek : k = nI i) (e : v = k + 6) : v = nI (i + 6) := by
  rw [e, ek, show (6 : Int32) = nI 6 from rfl, nI_add]
def eqN (n : Nat) (f g : Nat → Int32) : Prop := ∀ j, j < n → f j = g j
theorem eqN_upd {n : Nat} {f g : Nat → Int32} {k : Nat} {v : Int32} (h : eqN n f g) : eqN n (upd f k v) (upd g k v) := by
  intro j hj
  unfold upd
  split
  · rfl
  · exact h j hj
theorem eqN_form {f g : Nat → Int32} {s n : Int32} (h : eqN 3 f g) : rForm f s n = rForm g s n ∧ eqN 3 (sForm f s n) (sForm g s n) := by
  unfold rForm sForm
  constructor
  · split
    · rfl
    · split
      · rfl
      · exact h _ (cl_lt (vi_in (M := 3) rfl (by grind) (by grind)))
  · split
    · exact h
    · exact eqN_upd h
theorem eqN_warm {f g : Nat → Int32} {d w : Int32} (h : eqN 40 f g) : rWarm f d w = rWarm g d w ∧ eqN 40 (sWarm f d w) (sWarm g d w) := by
  unfold rWarm sWarm
  constructor
  · split
    · rfl
    · split
      · rfl
      · exact h _ (cl_lt (vi_in (M := 40) rfl (by grind) (by grind)))
  · split
    · exact h
    · exact eqN_upd h
theorem okWm_s {f : Nat → Int32} {d w : Int32} (h : okWm f) : okWm (sWarm f d w) := by
  unfold sWarm
  split
  · exact h
  · intro j
    unfold upd
    split
    · constructor <;> grind
    · exact h j
theorem sBase_b {b n : Int32} (h0 : 0 ≤ b) (h1 : b ≤ 20) : 0 ≤ sBase b n ∧ sBase b n ≤ 20 := by
  unfold sBase
  split <;> constructor <;> grind
theorem okDeg_0 {f : Nat → Int32} {p : Int32} (h : p ≤ 0) : okDeg f p := by
  intro i hi
  have := cl_mle h
  have z : (0 : Int32).toNatClampNeg = 0 := rfl
  omega
theorem okTh_0 {f : Nat → Int32} {p : Int32} (h : p ≤ 0) : okTh f p := by
  intro i hi
  have := cl_mle h
  have z : (0 : Int32).toNatClampNeg = 0 := rfl
  omega
theorem prevD_upd {f : Nat → Int32} {k i : Nat} {v : Int32} (h : i ≤ k) : prevD (upd f k v) i = prevD f i := by
  cases i with
  | zero => rfl
  | succ i =>
    show upd f k v i = f i
    exact pk_un (by omega)
theorem prevD_last {f : Nat → Int32} {p : Int32} (h0 : 0 ≤ p) (h6 : p ≤ 6) : prevD f p.toNatClampNeg = if 0 < p then f (p - 1).toNatClampNeg else 0 := by
  split
  · have := cl_p (k := p) (v := p - 1) h0 rfl (by grind)
    rw [← this]
    rfl
  · have e : p = 0 := by grind
    subst e
    rfl
theorem point_ok {fd fh fd2 fh2 : Nat → Int32} {p p2 d t r : Int32} (h0 : 0 ≤ p) (h6 : p ≤ 6) (hd : okDeg fd p) (ht : okTh fh p) (c1 : bGo fd fh p d t → r = -2 ∧ p2 = p ∧ fd2 = fd ∧ fh2 = fh) (c2 : ¬ bGo fd fh p d t → p = 6 → r = -4 ∧ p2 = p ∧ fd2 = fd ∧ fh2 = fh) (c3 : ¬ bGo fd fh p d t → p < 6 → r = p + 1 ∧ p2 = p + 1 ∧ fd2 = upd fd p.toNatClampNeg d ∧ fh2 = upd fh p.toNatClampNeg t) : 0 ≤ p2 ∧ p2 ≤ 6 ∧ okDeg fd2 p2 ∧ okTh fh2 p2 := by
  by_cases hg : bGo fd fh p d t
  · obtain ⟨_, rfl, rfl, rfl⟩ := c1 hg
    exact ⟨h0, h6, hd, ht⟩
  · by_cases hp : p = 6
    · obtain ⟨_, rfl, rfl, rfl⟩ := c2 hg hp
      exact ⟨h0, h6, hd, ht⟩
    · obtain ⟨_, rfl, rfl, rfl⟩ := c3 hg (by grind)
      have hs := cl_s (k := p) h0 (by grind)
      have hl := prevD_last (f := fd) h0 h6
      have hl2 := prevD_last (f := fh) h0 h6
      unfold bGo at hg
      refine ⟨by grind, by grind, ?_, ?_⟩
      · intro i hi
        rw [hs] at hi
        rw [prevD_upd (by omega)]
        by_cases h1 : i = p.toNatClampNeg
        · rw [h1, hl]
          have hu : upd fd p.toNatClampNeg d p.toNatClampNeg = d := by simp [upd]
          rw [hu]
          by_cases hz : 0 < p
          · rw [if_pos hz]
            have hq := hd (p - 1).toNatClampNeg (cl_mono (by grind) (by grind))
            refine ⟨?_, ?_, ?_⟩ <;> grind
          · rw [if_neg hz]
            refine ⟨?_, ?_, ?_⟩ <;> grind
        · rw [pk_un h1]
          exact hd i (by omega)
      · intro i hi
        rw [hs] at hi
        rw [prevD_upd (by omega)]
        by_cases h1 : i = p.toNatClampNeg
        · rw [h1, hl2]
          have hu : upd fh p.toNatClampNeg t p.toNatClampNeg = t := by simp [upd]
          rw [hu]
          by_cases hz : 0 < p
          · rw [if_pos hz]
            have hq := ht (p - 1).toNatClampNeg (cl_mono (by grind) (by grind))
            refine ⟨?_, ?_, ?_⟩ <;> grind
          · rw [if_neg hz]
            refine ⟨?_, ?_, ?_⟩ <;> grind
        · rw [pk_un h1]
          exact ht i (by omega)
