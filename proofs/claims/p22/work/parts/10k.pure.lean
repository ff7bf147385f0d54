/-! ===== steps of the loops, in the walker's words ===== -/
theorem ret1 {p : Prop} (h : p) : ((1 : Int32) = 0 ↔ ¬ p) := ⟨fun q => absurd q (by decide), fun q => absurd h q⟩
theorem ret0 {p : Prop} (h : ¬ p) : ((0 : Int32) = 0 ↔ ¬ p) := ⟨fun _ => h, fun _ => rfl⟩
theorem any_y {f : Nat → Bool} {k n : Int32} (h0 : 0 ≤ k) (h1 : k < n) (h : f k.toNatClampNeg = true) : anyB f n.toNatClampNeg = true := anyB_t h _ (cl_mono h0 h1)
theorem any_n {f : Nat → Bool} {k v : Int32} (h0 : 0 ≤ k) (h1 : k < 1000) (e : v = k + 1) (h : ¬ anyB f k.toNatClampNeg = true) (hf : ¬ f k.toNatClampNeg = true) : ¬ anyB f v.toNatClampNeg = true := by
  rw [anyB_s h0 h1 e]
  intro q
  rcases Bool.or_eq_true _ _ ▸ q with q | q
  · exact h q
  · exact hf q
theorem ld_iff {M : Nat → Nat → Int32} {f : Nat → Int32} {n : Nat} {w : Nat → Int32} {p day : Int32} {i : Nat} : ldX M f n w p day i = true ↔ (¬ bSt (w i) day = 0 ∧ ((M i p.toNatClampNeg = 0 ∧ w i = day ∧ plc f (nI i) n < plc f p n) ∨ (¬ (M i p.toNatClampNeg = 0 ∧ w i = day) ∧ w i + M i p.toNatClampNeg ≤ day))) := by
  unfold ldX
  by_cases h1 : bSt (w i) day = 0
  · simp [h1]
  · by_cases h2 : M i p.toNatClampNeg = 0 ∧ w i = day
    · simp [h1, h2]
    · simp [h1, h2]
      grind
theorem ahX_iff {M : Nat → Nat → Int32} {f : Nat → Int32} {n : Nat} {w : Nat → Int32} {p day : Int32} {i : Nat} : ahX M f n w p day i = true ↔ (¬ M i p.toNatClampNeg = -1 ∧ ¬ ldX M f n w p day i = true) := by
  unfold ahX
  simp
theorem ahM_iff {M : Nat → Nat → Int32} {w : Nat → Int32} {p : Nat} {day : Int32} {i : Nat} : ahM M w p day i = true ↔ (¬ M i p = -1 ∧ (w i = -1 ∨ day < w i + M i p)) := by
  unfold ahM
  simp
theorem carB_iff {uk uf : Nat → Int32} {q s : Nat} : carB uk uf q s = true ↔ (((uk q = 1 ∨ uk q = 2) ∧ uf q = uf s) ∨ (¬ (uk q = 1 ∨ uk q = 2) ∧ uk q = 0 ∧ uf q = uf s - 1)) := by
  unfold carB
  by_cases h : uk q = 1 ∨ uk q = 2
  · rw [if_pos h]
    simp [h]
  · rw [if_neg h]
    simp [h]
theorem stB_iff {η : Int32 → Int32 → Int32} {be : Int32} {uk uf w : Nat → Int32} {s : Nat} {day : Int32} {i : Nat} : stB η be uk uf w s day i = true ↔ (carB uk uf i s = true ∧ η (w i) day < be) := by
  unfold stB
  simp
theorem hlB_iff {σ : Int32 → Int32} {w : Nat → Int32} {day : Int32} {i : Nat} : hlB σ w day i = true ↔ (¬ bSt (w i) day = 0 ∧ day < σ (w i)) := by
  unfold hlB
  simp
theorem mayX_iff {M : Nat → Nat → Int32} {f : Nat → Int32} {σ : Int32 → Int32} {η : Int32 → Int32 → Int32} {uk uf uv us un ff : Nat → Int32} {gl be : Int32} {n : Nat} {w : Nat → Int32} {p day : Int32} : mayX M f σ η uk uf uv us un ff gl be n w p day = true ↔ (¬ anyB (ahX M f n w p day) n = true ∧ ¬ (uk p.toNatClampNeg = 0 ∧ anyB (stB η be uk uf w p.toNatClampNeg day) n = true) ∧ ¬ frF σ (ff (us p.toNatClampNeg).toNatClampNeg) us un w (us p.toNatClampNeg) day p n < un p.toNatClampNeg ∧ ¬ gl < voF uv w day p n + uv p.toNatClampNeg) := by
  unfold mayX
  simp [and_assoc]
  grind
theorem mayB_iff {M : Nat → Nat → Int32} {σ : Int32 → Int32} {η : Int32 → Int32 → Int32} {uk uf uv us un ff : Nat → Int32} {gl be : Int32} {n : Nat} {w : Nat → Int32} {p day : Int32} : mayB M σ η uk uf uv us un ff gl be n w p day = true ↔ (¬ anyB (ahM M w p.toNatClampNeg day) n = true ∧ ¬ (uk p.toNatClampNeg = 0 ∧ anyB (stB η be uk uf w p.toNatClampNeg day) n = true) ∧ ¬ frF σ (ff (us p.toNatClampNeg).toNatClampNeg) us un w (us p.toNatClampNeg) day p n < un p.toNatClampNeg ∧ ¬ gl < voF uv w day p n + uv p.toNatClampNeg) := by
  unfold mayB
  simp [and_assoc]
  grind
theorem sdf_le {fs : Nat → Int32} (h : okS fs) (d : Int32) : sdf fs d ≤ 40 := by
  unfold sdf
  split
  · exact h _
  · decide
theorem enF_le {σ : Int32 → Int32} {w : Nat → Int32} {n : Nat} (h : ∀ d, σ d ≤ 40) : enF σ w n ≤ 40 := mxF_le (by decide) n (fun _ _ => h _)
/-! renew -/
theorem dg_mx {x b : Int32} (h0 : -30 ≤ x) (h1 : x ≤ 50) (h2 : 0 ≤ b) (h3 : b ≤ 20) : (if 0 < x - b then x - b else 0) = (if b < x then x - b else 0) := by
  have h : 0 < x - b ↔ b < x := by
    constructor
    · intro q
      grind
    · intro q
      grind
  by_cases q : b < x
  · rw [if_pos q, if_pos (h.mpr q)]
  · rw [if_neg q, if_neg (fun z => q (h.mp z))]
theorem rn_0 {H : Nat → Int32} {sp k1 k2 w k3 : Int32} (h0 : 0 ≤ k2) (h1 : k2 < 1000) (e : w = k2 + 1) (e3 : k3 = if k1 < w then w else k1) (hp : ∀ d : Nat, k2.toNatClampNeg < d → d < k1.toNatClampNeg → H d < sp) : ∀ d : Nat, k2.toNatClampNeg < d → d < k3.toNatClampNeg → H d < sp := by
  intro d h2 h3
  rw [e3] at h3
  split at h3
  · rw [e, cl_s h0 h1] at h3
    omega
  · exact hp d h2 h3
/-! a day's row -/
theorem in_no1 {mb : (Nat → Int32) → Int32 → Int32 → Bool} {rf pd pd2 : Nat → Int32} {kd k v : Int32} (h0 : 0 ≤ k) (h1 : k < 1000) (e : v = k + 1) (hp : pd2 = inF mb rf kd pd k.toNatClampNeg) (h : ¬ pd2 (rf k.toNatClampNeg).toNatClampNeg = -1) : pd2 = inF mb rf kd pd v.toNatClampNeg := by
  rw [inF_s h0 h1 e, ← hp, if_neg (fun q => h q.1)]
theorem in_no2 {mb : (Nat → Int32) → Int32 → Int32 → Bool} {rf pd pd2 : Nat → Int32} {kd k v : Int32} (h0 : 0 ≤ k) (h1 : k < 1000) (e : v = k + 1) (hp : pd2 = inF mb rf kd pd k.toNatClampNeg) (h : ¬ mb pd2 (rf k.toNatClampNeg) kd = true) : pd2 = inF mb rf kd pd v.toNatClampNeg := by
  rw [inF_s h0 h1 e, ← hp, if_neg (fun q => h q.2)]
theorem in_yes {mb : (Nat → Int32) → Int32 → Int32 → Bool} {rf pd pd2 : Nat → Int32} {kd k v p : Int32} (h0 : 0 ≤ k) (h1 : k < 1000) (e : v = k + 1) (hp : pd2 = inF mb rf kd pd k.toNatClampNeg) (ep : p = rf k.toNatClampNeg) (h : pd2 p.toNatClampNeg = -1) (h2 : mb pd2 (rf k.toNatClampNeg) kd = true) : upd pd2 p.toNatClampNeg kd = inF mb rf kd pd v.toNatClampNeg := by
  rw [inF_s h0 h1 e, ← hp, ← ep, if_pos ⟨h, by rw [ep]; exact h2⟩]
theorem cnU_st {w : Nat → Int32} {p d kw v n : Int32} (h0 : 0 ≤ p) (h1 : p < n) (hp : w p.toNatClampNeg = -1) (hd : 0 ≤ d) (hk : kw = cnU w n.toNatClampNeg) (e : v = kw + (-1)) : v = cnU (upd w p.toNatClampNeg d) n.toNatClampNeg := by
  rw [cnU_upd hp (by grind) _ (cl_mono h0 h1), ← hk, e]
  grind
theorem row_cl {f : Nat → Int32} {n : Int32} (h : okRow f n) : ∀ i, i < n.toNatClampNeg → (f i).toNatClampNeg < n.toNatClampNeg := fun i hi => cl_mono (h i hi).1 (h i hi).2
theorem pl_all {mb : (Nat → Int32) → Int32 → Int32 → Bool} {rf w pd : Nat → Int32} {n nw kd kw : Int32} (hn : n ≤ 10) (hr : okRow rf n) (h0 : 0 ≤ nw) (h1 : nw ≤ kd) (h2 : kd ≤ 40) (hp : pd = dyF mb rf n.toNatClampNeg nw (unp n.toNatClampNeg nw w) (kd.toNatClampNeg - nw.toNatClampNeg)) (hk : kw = cnU pd n.toNatClampNeg) (hw : kw ≤ 0 ∨ 40 ≤ kd) : pd = plF mb rf n.toNatClampNeg nw w := by
  have hN := cl_le (n := n) (M := 10) (k := 10) rfl hn
  have hc1 := cl_mle h1
  have hc2 := cl_le (n := kd) (M := 40) (k := 40) rfl h2
  rcases hw with hw | hw
  · have h9 := cnU_0 (w := pd) n.toNatClampNeg hN (by rw [← hk]; exact hw)
    have h8 := dyF_all (mb := mb) (rf := rf) (n := n.toNatClampNeg) (nw := nw) (w := unp n.toNatClampNeg nw w) (j := kd.toNatClampNeg - nw.toNatClampNeg) (row_cl hr) (by rw [← hp]; exact h9) (40 - kd.toNatClampNeg)
    unfold plF
    rw [show 40 - nw.toNatClampNeg = kd.toNatClampNeg - nw.toNatClampNeg + (40 - kd.toNatClampNeg) by omega, h8]
    exact hp
  · have e : kd = 40 := by grind
    rw [hp, e]
    rfl
theorem ep_of {σ : Int32 → Int32} {mb : (Nat → Int32) → Int32 → Int32 → Bool} {g q pd w : Nat → Int32} {n : Nat} {nw r : Int32} (h : unp n nw pd = unp n nw w) (hq : q = plF mb g n nw pd) (hr : r = enF σ q n) : r = EP σ mb n nw w g := by
  rw [hr, hq, ← EP_unp h]
  rfl
theorem EP_fn {σ : Int32 → Int32} {mb : (Nat → Int32) → Int32 → Int32 → Bool} {w v : Nat → Int32} {n : Nat} {nw : Int32} (h : unp n nw w = unp n nw v) : EP σ mb n nw w = EP σ mb n nw v := by
  funext g
  exact EP_unp h
theorem unp_q {mb : (Nat → Int32) → Int32 → Int32 → Bool} {g q pd w : Nat → Int32} {n nw : Int32} (hr : okRow g n) (h0 : 0 ≤ nw) (h1 : nw ≤ 39) (h : unp n.toNatClampNeg nw pd = unp n.toNatClampNeg nw w) (hq : q = plF mb g n.toNatClampNeg nw pd) : unp n.toNatClampNeg nw q = unp n.toNatClampNeg nw w := by
  rw [hq, unp_pl (row_cl hr) h0 (by grind)]
  exact h
/-! to better -/
theorem sw_in {f g : Nat → Int32} {k v n : Int32} (h0 : 0 ≤ k) (hk : k ≤ 10) (hn : n ≤ 10) (h : 0 ≤ k ∧ k < n ∧ 0 ≤ v ∧ v < n → g = mv f k.toNatClampNeg v.toNatClampNeg) (e : v = k + 1) (h1 : v < n) : g = swp f k.toNatClampNeg := by
  have h9 := h ⟨h0, by grind, by grind, h1⟩
  rw [h9, e, cl_s h0 (by grind), mv_swp]
theorem cl_s1 {k n : Int32} (h0 : 0 ≤ k) (h1 : k + 1 < n) (hk : k < 1000) : k.toNatClampNeg + 1 < n.toNatClampNeg := by
  have := cl_mono (k := k + 1) (n := n) (by grind) h1
  rw [cl_s h0 hk] at this
  exact this
theorem gd_at {E : (Nat → Int32) → Int32} {f : Nat → Int32} {en : Int32} {k n : Nat} (hff : ff1 (gdB E f en) k = k) (hb : E (swp f k) < en) (hk : k + 1 < n) : gst E n f en = swp f k ∧ gen E n f en = E (swp f k) := by
  have h := ff1_at hff (show gdB E f en k = true from decide_eq_true hb) (n - 1) (by omega)
  have e : gst E n f en = swp f k := by
    unfold gst
    rw [h, if_pos (by omega)]
  refine ⟨e, ?_⟩
  unfold gen
  rw [e, h, if_pos (by omega)]
theorem gd_no {E : (Nat → Int32) → Int32} {f : Nat → Int32} {en k v : Int32} (h0 : 0 ≤ k) (h1 : k < 1000) (e : v = k + 1) (hff : ff1 (gdB E f en) k.toNatClampNeg = k.toNatClampNeg) (hb : ¬ E (swp f k.toNatClampNeg) < en) : ff1 (gdB E f en) v.toNatClampNeg = v.toNatClampNeg := by
  rw [e, cl_s h0 h1]
  exact ff1_no hff (fun q => hb (of_decide_eq_true q))
theorem gd_end {E : (Nat → Int32) → Int32} {f : Nat → Int32} {en k n : Int32} (h0 : 0 ≤ k) (h1 : k < 1000) (hn : 0 ≤ n) (hff : ff1 (gdB E f en) k.toNatClampNeg = k.toNatClampNeg) (hk : k + 1 ≤ n ∨ k = 0) (hx : n ≤ k + 1) : gst E n.toNatClampNeg f en = f ∧ gen E n.toNatClampNeg f en = en := by
  have e : n.toNatClampNeg - 1 = k.toNatClampNeg := by
    have h9 := cl_mle hx
    rw [cl_s h0 h1] at h9
    rcases hk with hk | hk
    · have := cl_mle hk
      rw [cl_s h0 h1] at this
      omega
    · rw [hk] at h9 ⊢
      have z : (0 : Int32).toNatClampNeg = 0 := rfl
      omega
  unfold gen gst
  rw [e, hff, if_neg (by omega), if_neg (by omega)]
  exact ⟨rfl, rfl⟩
theorem bt_s {E : (Nat → Int32) → Int32} {n : Nat} {f sg s2 : Nat → Int32} {k v ke : Int32} (h0 : 0 ≤ k) (h1 : k < 1000) (e : v = k + 1) (hs : sg = btR E n f k.toNatClampNeg) (hk : ke = E sg) (h2 : s2 = gst E n sg ke) : s2 = btR E n f v.toNatClampNeg := by
  rw [e, cl_s h0 h1, h2, hk, hs]
  rfl
theorem bt_c {E : (Nat → Int32) → Int32} {n : Nat} {f sg : Nat → Int32} {k v ke kc kc2 r : Int32} (h0 : 0 ≤ k) (h1 : k < 1000) (e : v = k + 1) (hs : sg = btR E n f k.toNatClampNeg) (hk : ke = E sg) (hc : kc = btC E n f k.toNatClampNeg) (hr : r = gen E n sg ke) (hl : r < ke) (e2 : kc2 = kc + 1) : kc2 = btC E n f v.toNatClampNeg := by
  have h9 : btB E n (btR E n f k.toNatClampNeg) = true := by
    rw [hr, hk, hs] at hl
    exact gen_lt.mp hl
  rw [e, cl_s h0 h1, e2, hc]
  show _ = if btB E n (btR E n f k.toNatClampNeg) = true then btC E n f k.toNatClampNeg + 1 else btC E n f k.toNatClampNeg
  rw [if_pos h9]
theorem bt_e {E : (Nat → Int32) → Int32} {n : Nat} {sg s2 : Nat → Int32} {ke r : Int32} (hk : ke = E sg) (h2 : s2 = gst E n sg ke) (hr : r = gen E n sg ke) : r = E s2 := by
  rw [hr, h2, hk]
  exact gen_E
theorem bt_f {E : (Nat → Int32) → Int32} {n : Nat} {f sg s2 : Nat → Int32} {k ke kc r : Int32} (h0 : 0 ≤ k) (h1 : k < 10) (hs : sg = btR E n f k.toNatClampNeg) (hk : ke = E sg) (hc : kc = btC E n f k.toNatClampNeg) (h2 : s2 = gst E n sg ke) (hr : r = gen E n sg ke) (hl : ¬ r < ke) : s2 = btR E n f 10 ∧ kc = btC E n f 10 := by
  have h9 : ¬ btB E n (btR E n f k.toNatClampNeg) = true := fun q => by
    rw [hr, hk, hs] at hl
    exact hl (gen_lt.mpr q)
  have hl2 := cl_mono h0 h1
  have z : (10 : Int32).toNatClampNeg = 10 := rfl
  have h8 := bt_stop h9 (10 - k.toNatClampNeg)
  rw [show k.toNatClampNeg + (10 - k.toNatClampNeg) = 10 by omega] at h8
  rw [h8.1, h8.2]
  refine ⟨?_, hc⟩
  rw [h2, hk, hs]
  exact gst_no h9
theorem bt_g {E : (Nat → Int32) → Int32} {n : Nat} {f sg : Nat → Int32} {k kc : Int32} (h1 : k ≤ 10) (h2 : 10 ≤ k) (hs : sg = btR E n f k.toNatClampNeg) (hc : kc = btC E n f k.toNatClampNeg) : sg = btR E n f 10 ∧ kc = btC E n f 10 := by
  have e : k = 10 := by grind
  rw [hs, hc, e]
  exact ⟨rfl, rfl⟩
/-! moves -/
theorem mv_end {f fa fb : Nat → Int32} {fr to k k2 v : Int32} (hfr : fr ≤ k) (hto : k ≤ to ∨ k = fr) (hx : to ≤ k) (hfa : fa = shL f fr.toNatClampNeg k.toNatClampNeg) (hk2 : k2 ≤ fr) (hto2 : to ≤ k2 ∨ k2 = fr) (hx2 : k2 ≤ to) (hfb : fb = shR fa k2.toNatClampNeg fr.toNatClampNeg) (ev : v = f fr.toNatClampNeg) : upd fb to.toNatClampNeg v = mv f fr.toNatClampNeg to.toNatClampNeg := by
  unfold mv
  by_cases h : fr ≤ to
  · have e1 : k = to := by grind
    have e2 : k2 = fr := by grind
    have hm := cl_mle h
    rw [hfb, hfa, e1, e2, shR_0, shR_e _ hm, ev]
  · have e1 : k = fr := by grind
    have e2 : k2 = to := by grind
    have hm := cl_mle (a := to) (b := fr) (by grind)
    rw [hfb, hfa, e1, e2, shL_0, shL_e _ hm, ev]
/-! the next row -/
theorem pv_0 {f : Nat → Int32} {ln v : Int32} (h0 : 0 ≤ ln) (h1 : ln ≤ 10) (e : v = ln - 2) : pv f (v + 1).toNatClampNeg = pv f (ln.toNatClampNeg - 1) := by
  by_cases h : ln = 0
  · subst h
    rw [e]
    rfl
  · have := cl_p (k := ln) (v := ln - 1) h0 rfl (by grind)
    rw [show v + 1 = ln - 1 by grind, show ln.toNatClampNeg - 1 = (ln - 1).toNatClampNeg by omega]
theorem pv_b {f : Nat → Int32} {k v : Int32} {P : Nat} (h0 : 0 ≤ k) (h1 : k < 1000) (e : v = k + (-1)) (hc : f (k + 1).toNatClampNeg < f k.toNatClampNeg) (hp : pv f (k + 1).toNatClampNeg = P) : pv f (v + 1).toNatClampNeg = P := by
  rw [cl_s h0 h1] at hp hc
  rw [show v + 1 = k by grind, ← hp]
  show _ = if f (k.toNatClampNeg + 1) < f k.toNatClampNeg then pv f k.toNatClampNeg else k.toNatClampNeg + 1
  rw [if_pos hc]
theorem pv_z {f : Nat → Int32} {k : Int32} {P : Nat} (h0 : -2 ≤ k) (h1 : k < 0) (hp : pv f (k + 1).toNatClampNeg = P) : P = 0 := by
  have h : k = -2 ∨ k = -1 := by grind
  rw [← hp]
  rcases h with rfl | rfl <;> rfl
theorem pv_h {f : Nat → Int32} {k : Int32} {P : Nat} (h0 : 0 ≤ k) (h1 : k < 1000) (hc : ¬ f (k + 1).toNatClampNeg < f k.toNatClampNeg) (hp : pv f (k + 1).toNatClampNeg = P) : P = k.toNatClampNeg + 1 := by
  rw [cl_s h0 h1] at hp hc
  rw [← hp]
  show (if f (k.toNatClampNeg + 1) < f k.toNatClampNeg then pv f k.toNatClampNeg else k.toNatClampNeg + 1) = _
  rw [if_neg hc]
theorem sj_0 {f : Nat → Int32} {i : Nat} {ln v : Int32} (h0 : 0 < ln) (e : v = ln - 1) : sj f i v.toNatClampNeg = sj f i (ln.toNatClampNeg - 1) := by
  have := cl_p (k := ln) (v := v) (by grind) e (by grind)
  rw [show ln.toNatClampNeg - 1 = v.toNatClampNeg by omega]
theorem sj_b {f : Nat → Int32} {k k2 v : Int32} {P : Nat} (h0 : 0 ≤ k) (h1 : k < k2) (e : v = k2 + (-1)) (hc : f k2.toNatClampNeg < f k.toNatClampNeg) (hp : sj f k.toNatClampNeg k2.toNatClampNeg = P) : sj f k.toNatClampNeg v.toNatClampNeg = P := by
  have h9 := cl_p (k := k2) (v := v) (by grind) (by grind) (by grind)
  have h8 := cl_mono h0 h1
  rw [← h9] at hp hc h8
  rw [← hp]
  show _ = if k.toNatClampNeg < v.toNatClampNeg + 1 ∧ f (v.toNatClampNeg + 1) < f k.toNatClampNeg then sj f k.toNatClampNeg v.toNatClampNeg else v.toNatClampNeg + 1
  rw [if_pos ⟨h8, hc⟩]
theorem sj_h {f : Nat → Int32} {k k2 : Int32} {P : Nat} (hc : k2 ≤ k ∨ ¬ f k2.toNatClampNeg < f k.toNatClampNeg) (hp : sj f k.toNatClampNeg k2.toNatClampNeg = P) : P = k2.toNatClampNeg := by
  have h9 : ¬ (k.toNatClampNeg < k2.toNatClampNeg ∧ f k2.toNatClampNeg < f k.toNatClampNeg) := by
    rcases hc with hc | hc
    · have := cl_mle hc
      omega
    · exact fun q => hc q.2
  rw [← hp]
  revert h9
  generalize k2.toNatClampNeg = j
  intro h9
  cases j with
  | zero => rfl
  | succ j =>
    show (if k.toNatClampNeg < j + 1 ∧ f (j + 1) < f k.toNatClampNeg then sj f k.toNatClampNeg j else j + 1) = _
    rw [if_neg h9]
theorem rv_0 {F : Nat → Int32} {k ln v w : Int32} (h0 : 0 < ln) (e : v = k + 1) (e2 : w = ln - 1) : F = rvP F (k + 1).toNatClampNeg (ln.toNatClampNeg - 1) v.toNatClampNeg w.toNatClampNeg := by
  have := cl_p (k := ln) (v := w) (by grind) e2 (by grind)
  rw [e, show ln.toNatClampNeg - 1 = w.toNatClampNeg by omega, rvP_0]
theorem rv_b {F fa fb : Nat → Int32} {k ln k3 k4 v w : Int32} (hln : ln ≤ 10) (h0 : 0 ≤ k) (h1 : k + 1 ≤ k3) (h2 : k3 < k4) (h3 : k4 < ln) (h4 : k3 + k4 = k + ln) (hk : k < ln) (e : v = k3 + 1) (e2 : w = k4 + (-1)) (hb : fb = upd (upd fa k3.toNatClampNeg (fa k4.toNatClampNeg)) k4.toNatClampNeg (fa k3.toNatClampNeg)) (hf : fa = rvP F (k + 1).toNatClampNeg (ln.toNatClampNeg - 1) k3.toNatClampNeg k4.toNatClampNeg) : fb = rvP F (k + 1).toNatClampNeg (ln.toNatClampNeg - 1) v.toNatClampNeg w.toNatClampNeg := by
  obtain ⟨K, hK, rfl⟩ := nI_of2 (x := k) (M := 10) (n := 10) rfl (by grind) (by grind)
  obtain ⟨L, hL, rfl⟩ := nI_of2 (x := ln) (M := 10) (n := 10) rfl (by grind) (by grind)
  obtain ⟨A, hA, rfl⟩ := nI_of2 (x := k3) (M := 10) (n := 10) rfl (by grind) (by grind)
  obtain ⟨B, hB, rfl⟩ := nI_of2 (x := k4) (M := 10) (n := 10) rfl (by grind) (by grind)
  rw [nI_1] at h1
  rw [nI_add, nI_add] at h4
  have a1 := (nI_leI (by omega) (by omega)).mp h1
  have a2 := (nI_ltI (by omega) (by omega)).mp h2
  have a3 := (nI_ltI (by omega) (by omega)).mp h3
  have a4 : A + B = K + L := by
    have := congrArg Int32.toNatClampNeg h4
    rw [nI_clamp (by omega), nI_clamp (by omega)] at this
    exact this
  have w1 : w.toNatClampNeg = B - 1 := by
    have := cl_p (k := nI B) (v := w) (nI_pos' (by omega)) (by grind) (by
      have := nI_le (a := 1) (b := B) (by omega) (by omega)
      exact this)
    rw [nI_clamp (by omega)] at this
    omega
  rw [e, w1, nI_1, nI_1, nI_clamp (by omega), nI_clamp (by omega), nI_clamp (by omega)]
  rw [nI_1, nI_clamp (by omega), nI_clamp (by omega), nI_clamp (by omega), nI_clamp (by omega)] at hf
  rw [nI_clamp (by omega), nI_clamp (by omega)] at hb
  rw [hb, hf]
  exact rvP_s F (by omega) a2 (by omega) (by omega)
theorem nx_end {f F fa : Nat → Int32} {k k2 ln k3 k4 : Int32} (hln : ln ≤ 10) (h0 : 0 ≤ k) (hk : k < ln - 1) (hP : pv f (ln.toNatClampNeg - 1) = k.toNatClampNeg + 1) (hJ : sj f k.toNatClampNeg (ln.toNatClampNeg - 1) = k2.toNatClampNeg) (hF : F = upd (upd f k.toNatClampNeg (f k2.toNatClampNeg)) k2.toNatClampNeg (f k.toNatClampNeg)) (h1 : k + 1 ≤ k3) (h2 : k4 ≤ k3) (h3 : k4 < ln) (h4 : k3 + k4 = k + ln) (h5 : k3 ≤ k4 + 1) (hf : fa = rvP F (k + 1).toNatClampNeg (ln.toNatClampNeg - 1) k3.toNatClampNeg k4.toNatClampNeg) : fa = nxF f ln.toNatClampNeg := by
  obtain ⟨K, hK, rfl⟩ := nI_of2 (x := k) (M := 10) (n := 10) rfl (by grind) (by grind)
  obtain ⟨L, hL, rfl⟩ := nI_of2 (x := ln) (M := 10) (n := 10) rfl (by grind) (by grind)
  obtain ⟨A, hA, rfl⟩ := nI_of2 (x := k3) (M := 20) (n := 20) rfl (by grind) (by grind)
  obtain ⟨B, hB, rfl⟩ := nI_of2 (x := k4) (M := 10) (n := 10) rfl (by grind) (by grind)
  rw [nI_1] at h1
  rw [nI_1] at h5
  rw [nI_add, nI_add] at h4
  have a1 := (nI_leI (by omega) (by omega)).mp h1
  have a2 := (nI_leI (by omega) (by omega)).mp h2
  have a3 := (nI_ltI (by omega) (by omega)).mp h3
  have a5 := (nI_leI (by omega) (by omega)).mp h5
  have a4 : A + B = K + L := by
    have := congrArg Int32.toNatClampNeg h4
    rw [nI_clamp (by omega), nI_clamp (by omega)] at this
    exact this
  rw [nI_1, nI_clamp (by omega), nI_clamp (by omega), nI_clamp (by omega), nI_clamp (by omega)] at hf
  rw [nI_clamp (by omega), nI_clamp (by omega)] at hP
  rw [nI_clamp (by omega), nI_clamp (by omega)] at hJ
  rw [nI_clamp (by omega)] at hF
  rw [hf, rvP_e F (by omega) a2 (by omega) (by omega) a5, nI_clamp (by omega)]
  unfold nxF
  rw [hP, if_neg (by omega), show K + 1 - 1 = K by omega, hJ, hF]
  rfl
/-! the class's best -/
theorem hc_cp {n : Int32} {sg bg : Nat → Int32} : ∀ i, i < n.toNatClampNeg → va_cpy sg bg 0 0 n.toNatClampNeg i = sg i := fun i hi => by
  rw [pk_cpy_in (by omega) (by omega)]
  congr 1
  omega
theorem best_ok {E : (Nat → Int32) → Int32} {n : Int32} {g : Nat → Int32} (h0 : ¬ n = 0) (h1 : 0 ≤ n) (h2 : n ≤ 5) (hE : ∀ g, E g ≤ 40) (h : ∀ i, i < n.toNatClampNeg → g i = dig n (bsI E n (pwN n)) i) : okP g n := by
  have b := bs_end h0 h1 h2 hE
  exact okP_eq (dig_ok h0 h1 h2 b.1 b.2) h
