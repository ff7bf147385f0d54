/-! ===== hardness by days, and the day of stripping ===== -/
def dgF (fw : Nat → Int32) (bw : Int32) (d : Nat) : Int32 := if bw < fw d then fw d - bw else 0
def pS (fw : Nat → Int32) (bw : Int32) : Nat → Int32
  | 0 => 0
  | d + 1 => pS fw bw d + dgF fw bw d
theorem pS_sum {fw : Nat → Int32} {bw po : Int32} : ∀ n : Nat, pS fw bw (po.toNatClampNeg + n) = pS fw bw po.toNatClampNeg + sumD fw bw po n
  | 0 => by
    show pS fw bw po.toNatClampNeg = pS fw bw po.toNatClampNeg + 0
    rw [Int32.add_zero]
  | n + 1 => by
    have ih := pS_sum (fw := fw) (bw := bw) (po := po) n
    show pS fw bw (po.toNatClampNeg + n) + dgF fw bw (po.toNatClampNeg + n) = pS fw bw po.toNatClampNeg + (sumD fw bw po n + (if bw < fw (po.toNatClampNeg + n) then fw (po.toNatClampNeg + n) - bw else 0))
    rw [ih, Int32.add_assoc]
    rfl
theorem dg_b {fw : Nat → Int32} {bw : Int32} (hw : okWm fw) (hb0 : 0 ≤ bw) (hb1 : bw ≤ 20) (d : Nat) : 0 ≤ dgF fw bw d ∧ dgF fw bw d ≤ 50 := by
  have w1 := hw d
  unfold dgF
  split <;> constructor <;> grind
theorem pS_b {fw : Nat → Int32} {bw : Int32} (hw : okWm fw) (hb0 : 0 ≤ bw) (hb1 : bw ≤ 20) : ∀ n : Nat, n ≤ 40 → 0 ≤ pS fw bw n ∧ pS fw bw n ≤ nI (50 * n)
  | 0, _ => by
    show (0 : Int32) ≤ 0 ∧ (0 : Int32) ≤ nI (50 * 0)
    decide
  | n + 1, hn => by
    have ih := pS_b hw hb0 hb1 n (by omega)
    have t1 := dg_b hw hb0 hb1 n
    have e1 : nI (50 * (n + 1)) = nI (50 * n) + 50 := by
      rw [show (50 : Int32) = nI 50 from rfl, nI_add]
      rfl
    have b1 : nI (50 * n) ≤ 2000 := nI_le (a := 50 * n) (b := 2000) (by omega) (by omega)
    have b2 : 0 ≤ nI (50 * n) := nI_pos' (by omega)
    show 0 ≤ pS fw bw n + dgF fw bw n ∧ pS fw bw n + dgF fw bw n ≤ nI (50 * (n + 1))
    rw [e1]
    generalize dgF fw bw n = T at t1 ⊢
    generalize pS fw bw n = S at ih ⊢
    generalize nI (50 * n) = C at ih b1 b2 ⊢
    clear e1
    constructor <;> grind
theorem pS_2000 {fw : Nat → Int32} {bw : Int32} (hw : okWm fw) (hb0 : 0 ≤ bw) (hb1 : bw ≤ 20) {n : Nat} (hn : n ≤ 40) : 0 ≤ pS fw bw n ∧ pS fw bw n ≤ 2000 := by
  have h := pS_b hw hb0 hb1 n hn
  exact ⟨h.1, Int32.le_trans h.2 (nI_le (a := 50 * n) (b := 2000) (by omega) (by omega))⟩
theorem pS_mono {fw : Nat → Int32} {bw : Int32} (hw : okWm fw) (hb0 : 0 ≤ bw) (hb1 : bw ≤ 20) {p : Nat} : ∀ n : Nat, p ≤ n → n ≤ 40 → pS fw bw p ≤ pS fw bw n
  | 0, h, _ => by
    rw [show p = 0 by omega]
    exact Int32.le_refl _
  | n + 1, h, hn => by
    by_cases e : p = n + 1
    · rw [e]
      exact Int32.le_refl _
    · have ih := pS_mono hw hb0 hb1 (p := p) n (by omega) (by omega)
      have t1 := dg_b hw hb0 hb1 n
      have b1 := pS_2000 hw hb0 hb1 (n := n) (by omega)
      show pS fw bw p ≤ pS fw bw n + dgF fw bw n
      generalize dgF fw bw n = T at t1 ⊢
      grind
/-- hardness by the numbers of the days -/
def hdF (fw : Nat → Int32) (bw : Int32) (fd fh : Nat → Int32) (pts : Int32) (p d : Nat) : Int32 := hof fd fh pts (pS fw bw d - pS fw bw p) 7 0 0 0
theorem hrd_hd {fw : Nat → Int32} {bw : Int32} {fd fh : Nat → Int32} {pts po day : Int32} (hw : okWm fw) (hb0 : 0 ≤ bw) (hb1 : bw ≤ 20) (h1 : po ≤ day) (h2 : day ≤ 40) : hrd fw bw fd fh pts po day = hdF fw bw fd fh pts po.toNatClampNeg day.toNatClampNeg := by
  have hn := cl_le (n := day) (M := 40) (k := 40) rfl h2
  have hm := cl_mle h1
  have s1 := sumD_b hw hb0 hb1 (po := po) (day.toNatClampNeg - po.toNatClampNeg) (by omega)
  have e := pS_sum (fw := fw) (bw := bw) (po := po) (day.toNatClampNeg - po.toNatClampNeg)
  rw [show po.toNatClampNeg + (day.toNatClampNeg - po.toNatClampNeg) = day.toNatClampNeg by omega] at e
  unfold hrd hdF
  rw [if_neg (by grind), e]
  congr 1
  generalize pS fw bw po.toNatClampNeg = P
  generalize sumD fw bw po (day.toNatClampNeg - po.toNatClampNeg) = S
  grind
def okFg (fw : Nat → Int32) (bw : Int32) (fg : Nat → Int32) : Prop := ∀ d : Nat, d < 40 → fg d = pS fw bw d
theorem hon_hd {fw : Nat → Int32} {bw : Int32} {fd fh fg : Nat → Int32} {pts po day : Int32} (hg : okFg fw bw fg) (h0 : 0 ≤ po) (h1 : po ≤ day) (h2 : day < 40) : hon fd fh fg pts po day = hdF fw bw fd fh pts po.toNatClampNeg day.toNatClampNeg := by
  have hd := cl_mono (k := day) (n := 40) (by grind) h2
  have hp := cl_mono (k := po) (n := 40) h0 (by grind)
  have z : (40 : Int32).toNatClampNeg = 40 := rfl
  unfold hon hdF
  rw [if_neg (by grind), hg _ (by omega), hg _ (by omega)]
theorem mdiv_mono {a b b2 c : Int32} (ha : 0 ≤ a) (ha1 : a ≤ 1000) (hb : 0 ≤ b) (hbb : b ≤ b2) (hbc : b2 < c) (hc : c ≤ 2000) : a * b / c ≤ a * b2 / c := by
  obtain ⟨A, hA, rfl⟩ := nI_of2 (x := a) (M := 1000) (n := 1000) rfl (by grind) ha1
  obtain ⟨C, hC, rfl⟩ := nI_of2 (x := c) (M := 2000) (n := 2000) rfl (by grind) hc
  obtain ⟨B2, hB2, rfl⟩ := nI_of2 (x := b2) (M := 2000) (n := 2000) rfl (by grind) (by grind)
  obtain ⟨B, hB, rfl⟩ := nI_of2 (x := b) (M := 2000) (n := 2000) rfl (by grind) (by grind)
  have hBC : B2 < C := by
    rcases Nat.lt_or_ge B2 C with h | h
    · exact h
    · exact absurd (nI_le h (by omega)) (by grind)
  have hBB : B ≤ B2 := by
    rcases Nat.lt_or_ge B2 B with h | h
    · exact absurd (nI_lt h (by omega)) (by grind)
    · exact h
  have h1 : A * B ≤ 1000 * 2000 := Nat.mul_le_mul hA hB
  have h3 : A * B2 ≤ 1000 * 2000 := Nat.mul_le_mul hA hB2
  have h2 : A * B / C ≤ A * B2 / C := Nat.div_le_div_right (Nat.mul_le_mul_left A hBB)
  have h4 : A * B2 / C ≤ A * B2 := Nat.div_le_self _ _
  rw [pk_mul, pk_mul, pk_div (by omega) (by omega) (by omega), pk_div (by omega) (by omega) (by omega)]
  exact nI_le h2 (by omega)
theorem hof_ge {fd fh : Nat → Int32} {pts d : Int32} (hd : okDeg fd pts) (ht : okTh fh pts) : ∀ (n i : Nat) (g h : Int32), n + i ≤ 7 → g = prevD fd i → h = prevD fh i → g ≤ d → 0 ≤ h → h ≤ 1000 → h ≤ hof fd fh pts d n i g h := by
  intro n
  induction n with
  | zero => intro i g h _ _ _ _ h0 h1; exact Int32.le_refl _
  | succ n ih =>
    intro i g h hni eg eh hgd h0 h1
    show h ≤ (if pts ≤ nI i ∨ 6 ≤ nI i then h else if d < fd i ∧ 0 < fd i - g then h + (fh i - h) * (d - g) / (fd i - g) else hof fd fh pts d n (i + 1) (fd i) (fh i))
    by_cases hc : pts ≤ nI i ∨ 6 ≤ nI i
    · rw [if_pos hc]
      exact Int32.le_refl _
    · rw [if_neg hc]
      have hi : i < pts.toNatClampNeg := tb_cl rfl (by omega) (fun q => hc (Or.inl q))
      have d1 := hd i hi
      have t1 := ht i hi
      rw [← eg] at d1
      rw [← eh] at t1
      by_cases h2 : d < fd i ∧ 0 < fd i - g
      · rw [if_pos h2]
        have m1 := mdiv (a := fh i - h) (b := d - g) (c := fd i - g) (by grind) (by grind) (by grind) (by grind) (by grind)
        grind
      · rw [if_neg h2]
        have := ih (i + 1) (fd i) (fh i) (by omega) rfl rfl (by grind) (by grind) (by grind)
        grind
theorem hof_mono {fd fh : Nat → Int32} {pts x y : Int32} (hd : okDeg fd pts) (ht : okTh fh pts) (hxy : x ≤ y) : ∀ (n i : Nat) (g h : Int32), n + i ≤ 7 → g = prevD fd i → h = prevD fh i → 0 ≤ g → g ≤ x → 0 ≤ h → h ≤ 1000 → hof fd fh pts x n i g h ≤ hof fd fh pts y n i g h := by
  intro n
  induction n with
  | zero => intro i g h _ _ _ _ _ h0 h1; exact Int32.le_refl _
  | succ n ih =>
    intro i g h hni eg eh hg0 hgx h0 h1
    show (if pts ≤ nI i ∨ 6 ≤ nI i then h else if x < fd i ∧ 0 < fd i - g then h + (fh i - h) * (x - g) / (fd i - g) else hof fd fh pts x n (i + 1) (fd i) (fh i)) ≤ (if pts ≤ nI i ∨ 6 ≤ nI i then h else if y < fd i ∧ 0 < fd i - g then h + (fh i - h) * (y - g) / (fd i - g) else hof fd fh pts y n (i + 1) (fd i) (fh i))
    by_cases hc : pts ≤ nI i ∨ 6 ≤ nI i
    · rw [if_pos hc, if_pos hc]
      exact Int32.le_refl _
    · rw [if_neg hc, if_neg hc]
      have hi : i < pts.toNatClampNeg := tb_cl rfl (by omega) (fun q => hc (Or.inl q))
      have d1 := hd i hi
      have t1 := ht i hi
      rw [← eg] at d1
      rw [← eh] at t1
      by_cases h2 : x < fd i
      · rw [if_pos ⟨h2, by grind⟩]
        have m1 := mdiv (a := fh i - h) (b := x - g) (c := fd i - g) (by grind) (by grind) (by grind) (by grind) (by grind)
        by_cases h3 : y < fd i
        · rw [if_pos ⟨h3, by grind⟩]
          have m2 := mdiv (a := fh i - h) (b := y - g) (c := fd i - g) (by grind) (by grind) (by grind) (by grind) (by grind)
          have m3 := mdiv_mono (a := fh i - h) (b := x - g) (b2 := y - g) (c := fd i - g) (by grind) (by grind) (by grind) (by grind) (by grind) (by grind)
          generalize (fh i - h) * (x - g) / (fd i - g) = Q at *
          generalize (fh i - h) * (y - g) / (fd i - g) = R at *
          grind
        · rw [if_neg (fun q => h3 q.1)]
          have := hof_ge hd ht (d := y) n (i + 1) (fd i) (fh i) (by omega) rfl rfl (by grind) (by grind) (by grind)
          generalize (fh i - h) * (x - g) / (fd i - g) = Q at *
          grind
      · rw [if_neg (fun q => h2 q.1), if_neg (by grind)]
        exact ih (i + 1) (fd i) (fh i) (by omega) rfl rfl (by grind) (by grind) (by grind) (by grind)
theorem hdF_mono {fw : Nat → Int32} {bw : Int32} {fd fh : Nat → Int32} {pts : Int32} {p q d : Nat} (hw : okWm fw) (hb0 : 0 ≤ bw) (hb1 : bw ≤ 20) (hd : okDeg fd pts) (ht : okTh fh pts) (h1 : p ≤ q) (h2 : q ≤ d) (h3 : d ≤ 40) : hdF fw bw fd fh pts q d ≤ hdF fw bw fd fh pts p d := by
  have a := pS_mono hw hb0 hb1 (p := p) q h1 (by omega)
  have b := pS_mono hw hb0 hb1 (p := q) d h2 h3
  have c1 := pS_2000 hw hb0 hb1 (n := p) (by omega)
  have c2 := pS_2000 hw hb0 hb1 (n := q) (by omega)
  have c3 := pS_2000 hw hb0 hb1 (n := d) h3
  unfold hdF
  generalize pS fw bw p = P at *
  generalize pS fw bw q = Q at *
  generalize pS fw bw d = D at *
  exact hof_mono hd ht (x := D - Q) (y := D - P) (by grind) 7 0 0 0 (by omega) rfl rfl (by decide) (by grind) (by decide) (by decide)
/-- the first day from d on that is hard enough, 40 if there is none -/
def stG (hd : Nat → Int32) (sp : Int32) : Nat → Nat → Int32
  | 0, d => nI d
  | n + 1, d => if sp ≤ hd d then nI d else stG hd sp n (d + 1)
def stF (fw : Nat → Int32) (bw : Int32) (fd fh : Nat → Int32) (pts sp : Int32) (p : Nat) : Int32 := stG (hdF fw bw fd fh pts p) sp (39 - p) (p + 1)
theorem stG_is {hd : Nat → Int32} {sp : Int32} {s : Nat} : ∀ n d : Nat, d + n = 40 → d ≤ s → s ≤ 40 → (∀ x, d ≤ x → x < s → hd x < sp) → (s = 40 ∨ ¬ hd s < sp) → stG hd sp n d = nI s
  | 0, d, h1, h2, h3, _, _ => by
    rw [show s = d by omega]
    rfl
  | n + 1, d, h1, h2, h3, h4, h5 => by
    show (if sp ≤ hd d then nI d else stG hd sp n (d + 1)) = nI s
    by_cases e : d = s
    · subst e
      have h6 : sp ≤ hd d := by
        rcases h5 with h | h
        · omega
        · grind
      rw [if_pos h6]
    · have := h4 d (Nat.le_refl _) (by omega)
      rw [if_neg (by grind)]
      exact stG_is n (d + 1) (by omega) (by omega) h3 (fun x hx hx2 => h4 x (by omega) hx2) h5
theorem stG_le {hd : Nat → Int32} {sp : Int32} : ∀ n d : Nat, d + n = 40 → stG hd sp n d ≤ 40 ∧ nI d ≤ stG hd sp n d
  | 0, d, h => by
    rw [show d = 40 by omega]
    show nI 40 ≤ 40 ∧ nI 40 ≤ nI 40
    decide
  | n + 1, d, h => by
    show (if sp ≤ hd d then nI d else stG hd sp n (d + 1)) ≤ 40 ∧ nI d ≤ (if sp ≤ hd d then nI d else stG hd sp n (d + 1))
    have ih := stG_le (hd := hd) (sp := sp) n (d + 1) (by omega)
    split
    · exact ⟨nI_le (a := d) (b := 40) (by omega) (by omega), Int32.le_refl _⟩
    · exact ⟨ih.1, Int32.le_trans (nI_le (by omega) (by omega)) ih.2⟩
def okFs (fw : Nat → Int32) (bw : Int32) (fd fh : Nat → Int32) (pts sp : Int32) (fs : Nat → Int32) : Prop := ∀ j : Nat, j < 40 → fs j = stF fw bw fd fh pts sp j
/-! the steps of renew -/
theorem dg_s {fw gg : Nat → Int32} {bw k v z : Int32} (hk1 : 1 ≤ k) (hk2 : k < 1000) (e : v = k + 1) (hg : ∀ d : Nat, d < k.toNatClampNeg → gg d = pS fw bw d) (hz : z = gg (k - 1).toNatClampNeg + dgF fw bw (k - 1).toNatClampNeg) : ∀ d : Nat, d < v.toNatClampNeg → upd gg k.toNatClampNeg z d = pS fw bw d := by
  have hp := cl_p (k := k) (v := k - 1) (by grind) rfl hk1
  rw [e, cl_s (by grind) hk2]
  intro d hd
  by_cases h : d = k.toNatClampNeg
  · rw [h, upd_at, hz, hg _ (by omega), ← hp]
    rfl
  · rw [upd_ne h]
    exact hg d (by omega)
theorem rn_3 {fw gg fd fh : Nat → Int32} {bw pts k2 k3 v r sp : Int32} (hg : okFg fw bw gg) (h0 : 0 ≤ k2) (h1 : k2 + 1 ≤ k3) (h2 : k2 < 40) (h3 : k3 < 40) (e : v = k3 + 1) (hr : r = hon fd fh gg pts k2 k3) (hc : r < sp) (hp : ∀ d : Nat, k2.toNatClampNeg < d → d < k3.toNatClampNeg → hdF fw bw fd fh pts k2.toNatClampNeg d < sp) : ∀ d : Nat, k2.toNatClampNeg < d → d < v.toNatClampNeg → hdF fw bw fd fh pts k2.toNatClampNeg d < sp := by
  rw [e, cl_s (by grind) (by grind)]
  intro d hd hd2
  by_cases h : d = k3.toNatClampNeg
  · rw [h, ← hon_hd hg h0 (by grind) h3, ← hr]
    exact hc
  · exact hp d hd (by omega)
theorem rn_is {fw gg fd fh : Nat → Int32} {bw pts k2 k3 sp : Int32} (hg : okFg fw bw gg) (h0 : 0 ≤ k2) (h1 : k2 + 1 ≤ k3) (h2 : k2 < 40) (h3 : k3 ≤ 40) (hc : k3 = 40 ∨ ¬ hon fd fh gg pts k2 k3 < sp) (hp : ∀ d : Nat, k2.toNatClampNeg < d → d < k3.toNatClampNeg → hdF fw bw fd fh pts k2.toNatClampNeg d < sp) : stF fw bw fd fh pts sp k2.toNatClampNeg = k3 := by
  have z : (40 : Int32).toNatClampNeg = 40 := rfl
  have a := cl_mono h0 h2
  have b := cl_mono (k := k2) (n := k3) h0 (by grind)
  have c := cl_le (n := k3) (M := 40) (k := 40) rfl h3
  unfold stF
  rw [stG_is (s := k3.toNatClampNeg) (39 - k2.toNatClampNeg) (k2.toNatClampNeg + 1) (by omega) (by omega) c (fun x hx hx2 => hp x (by omega) hx2) ?_]
  · exact (cl_nI k3 (by grind)).symm
  · rcases hc with hc | hc
    · exact Or.inl (by rw [hc]; rfl)
    · by_cases h40 : k3 = 40
      · exact Or.inl (by rw [h40]; rfl)
      · rw [hon_hd hg h0 (by grind) (by grind)] at hc
        exact Or.inr hc
theorem rn_gs {fw fd fh gs : Nat → Int32} {bw pts k2 k3 v sp : Int32} (h0 : 0 ≤ k2) (h1 : k2 < 1000) (e : v = k2 + 1) (hs : stF fw bw fd fh pts sp k2.toNatClampNeg = k3) (hg : ∀ j : Nat, j < k2.toNatClampNeg → gs j = stF fw bw fd fh pts sp j) : ∀ j : Nat, j < v.toNatClampNeg → upd gs k2.toNatClampNeg k3 j = stF fw bw fd fh pts sp j := by
  rw [e, cl_s h0 h1]
  intro j hj
  by_cases h : j = k2.toNatClampNeg
  · rw [h, upd_at, hs]
  · rw [upd_ne h]
    exact hg j (by omega)
theorem rn_nx {fw fd fh : Nat → Int32} {bw pts k2 k3 v sp : Int32} (hw : okWm fw) (hb0 : 0 ≤ bw) (hb1 : bw ≤ 20) (hd : okDeg fd pts) (ht : okTh fh pts) (h0 : 0 ≤ k2) (h1 : k2 < 1000) (h3 : k3 ≤ 40) (e : v = k2 + 1) (hp : ∀ d : Nat, k2.toNatClampNeg < d → d < k3.toNatClampNeg → hdF fw bw fd fh pts k2.toNatClampNeg d < sp) : ∀ d : Nat, v.toNatClampNeg < d → d < k3.toNatClampNeg → hdF fw bw fd fh pts v.toNatClampNeg d < sp := by
  have c := cl_le (n := k3) (M := 40) (k := 40) rfl h3
  rw [e, cl_s h0 h1]
  intro d hd1 hd2
  have m := hdF_mono hw hb0 hb1 hd ht (p := k2.toNatClampNeg) (q := k2.toNatClampNeg + 1) (d := d) (by omega) (by omega) (by omega)
  have n := hp d (by omega) hd2
  grind
def sdf (fs : Nat → Int32) (d : Int32) : Int32 := if 0 ≤ d ∧ d < 40 then fs d.toNatClampNeg else 40
