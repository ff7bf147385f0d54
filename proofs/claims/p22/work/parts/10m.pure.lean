/-! ===== the reference's steps ===== -/
theorem st_is {fw fd fh : Nat → Int32} {bw pts po k sp : Int32} (h0 : 0 ≤ po) (h1 : po + 1 ≤ k) (h2 : po ≤ 39) (h3 : k ≤ 40) (hc : k = 40 ∨ ¬ hdF fw bw fd fh pts po.toNatClampNeg k.toNatClampNeg < sp) (hp : ∀ d : Nat, po.toNatClampNeg < d → d < k.toNatClampNeg → hdF fw bw fd fh pts po.toNatClampNeg d < sp) : k = stF fw bw fd fh pts sp po.toNatClampNeg := by
  have z : (40 : Int32).toNatClampNeg = 40 := rfl
  have a := cl_mono (k := po) (n := 40) h0 (by grind)
  have b := cl_mono (k := po) (n := k) h0 (by grind)
  have c := cl_le (n := k) (M := 40) (k := 40) rfl h3
  unfold stF
  rw [stG_is (s := k.toNatClampNeg) (39 - po.toNatClampNeg) (po.toNatClampNeg + 1) (by omega) (by omega) c (fun x hx hx2 => hp x (by omega) hx2) ?_]
  · exact cl_nI k (by grind)
  · rcases hc with hc | hc
    · exact Or.inl (by rw [hc]; rfl)
    · exact Or.inr hc
theorem st_0 {H : Nat → Int32} {po v sp : Int32} (h0 : 0 ≤ po) (h1 : po ≤ 39) (e : v = po + 1) : ∀ d : Nat, po.toNatClampNeg < d → d < v.toNatClampNeg → H d < sp := by
  intro d h2 h3
  rw [e, cl_s h0 (by grind)] at h3
  omega
theorem st_b {fw fd fh : Nat → Int32} {bw pts po k v r sp : Int32} (hw : okWm fw) (hb0 : 0 ≤ bw) (hb1 : bw ≤ 20) (h0 : 0 ≤ po) (h1 : po + 1 ≤ k) (h39 : po ≤ 39) (h2 : k < 40) (e : v = k + 1) (hr : r = hrd fw bw fd fh pts po k) (hc : r < sp) (hp : ∀ d : Nat, po.toNatClampNeg < d → d < k.toNatClampNeg → hdF fw bw fd fh pts po.toNatClampNeg d < sp) : ∀ d : Nat, po.toNatClampNeg < d → d < v.toNatClampNeg → hdF fw bw fd fh pts po.toNatClampNeg d < sp := by
  intro d h3 h4
  rw [e, cl_s (by grind) (by grind)] at h4
  by_cases q : d = k.toNatClampNeg
  · rw [q, ← hrd_hd hw hb0 hb1 (by grind) (by grind), ← hr]
    exact hc
  · exact hp d h3 (by omega)
theorem st_e {fw fd fh : Nat → Int32} {bw pts po k r sp : Int32} (hw : okWm fw) (hb0 : 0 ≤ bw) (hb1 : bw ≤ 20) (h0 : 0 ≤ po) (h1 : po + 1 ≤ k) (h39 : po ≤ 39) (h2 : k < 40) (hr : r = hrd fw bw fd fh pts po k) (hc : ¬ r < sp) (hp : ∀ d : Nat, po.toNatClampNeg < d → d < k.toNatClampNeg → hdF fw bw fd fh pts po.toNatClampNeg d < sp) : k = stF fw bw fd fh pts sp po.toNatClampNeg := by
  refine st_is h0 h1 h39 (by grind) (Or.inr ?_) hp
  rw [← hrd_hd hw hb0 hb1 (by grind) (by grind), ← hr]
  exact hc
theorem st_n {fw fd fh : Nat → Int32} {bw pts po k sp : Int32} (h0 : 0 ≤ po) (h1 : po + 1 ≤ k) (h39 : po ≤ 39) (h2 : k ≤ 40) (hc : 40 ≤ k) (hp : ∀ d : Nat, po.toNatClampNeg < d → d < k.toNatClampNeg → hdF fw bw fd fh pts po.toNatClampNeg d < sp) : (40 : Int32) = stF fw bw fd fh pts sp po.toNatClampNeg := by
  have e : k = 40 := by grind
  rw [e] at hp h1
  exact st_is h0 h1 h39 (by decide) (Or.inl rfl) hp
theorem sgM_le {fw : Nat → Int32} {bw : Int32} {fd fh : Nat → Int32} {pts sp d : Int32} (h1 : d ≤ 39) : sgM fw bw fd fh pts sp d ≤ 40 := by
  unfold sgM
  split
  · decide
  · have h := cl_le (n := d) (M := 39) (k := 39) rfl h1
    exact (stG_le (hd := hdF fw bw fd fh pts d.toNatClampNeg) (sp := sp) (39 - d.toNatClampNeg) (d.toNatClampNeg + 1) (by omega)).1
theorem carB_self {uk uf : Nat → Int32} {i : Nat} (h : uk i = 0) : ¬ carB uk uf i i = true := by
  rw [carB_iff, h]
  intro q
  rcases q with q | q
  · exact absurd q.1 (by decide)
  · have := q.2.2
    generalize uf i = x at this
    exact absurd this (by grind)
theorem et_p {fw : Nat → Int32} {bw : Int32} {fd fh : Nat → Int32} {pts d day : Int32} (h : ¬ bSt d day = 0) : etM fw bw fd fh pts d day = hrd fw bw fd fh pts d day := if_neg h
theorem et_n {fw : Nat → Int32} {bw : Int32} {fd fh : Nat → Int32} {pts d day : Int32} (h : bSt d day = 0) : etM fw bw fd fh pts d day = -1 := if_pos h
/-! the reference's better -/
def btI (E : (Nat → Int32) → Int32) (n : Nat) (f : Nat → Int32) (en ki kn : Int32) (ob : Nat → Int32) : Prop := (kn = 0 ∧ ob = f ∧ ff1 (gdB E f en) ki.toNatClampNeg = ki.toNatClampNeg) ∨ (kn = 1 ∧ ob = gst E n f en ∧ ff1 (gdB E f en) (n - 1) < n - 1)
theorem btI_0 {E : (Nat → Int32) → Int32} {n : Nat} {f : Nat → Int32} {en : Int32} : btI E n f en 0 0 f := Or.inl ⟨rfl, rfl, rfl⟩
theorem swp_i {f : Nat → Int32} {k v : Int32} (h0 : 0 ≤ k) (h1 : k < 1000) (e : v = k + 1) : upd (upd f k.toNatClampNeg (f v.toNatClampNeg)) v.toNatClampNeg (f k.toNatClampNeg) = swp f k.toNatClampNeg := by
  rw [e, cl_s h0 h1]
  rfl
theorem swp_b {f : Nat → Int32} {k v : Int32} (h0 : 0 ≤ k) (h1 : k < 1000) (e : v = k + 1) : upd (upd (swp f k.toNatClampNeg) v.toNatClampNeg (swp f k.toNatClampNeg k.toNatClampNeg)) k.toNatClampNeg (f k.toNatClampNeg) = f := by
  rw [e, cl_s h0 h1]
  exact swp_back f _
theorem btI_y {E : (Nat → Int32) → Int32} {f : Nat → Int32} {en k v r n : Int32} {ob : Nat → Int32} (h0 : 0 ≤ k) (h1 : k < 1000) (hn : k + 1 < n) (h : btI E n.toNatClampNeg f en k 0 ob) (hr : r = E (swp ob k.toNatClampNeg)) (hc : r < en) : btI E n.toNatClampNeg f en v 1 (swp ob k.toNatClampNeg) := by
  rcases h with ⟨_, e, h⟩ | ⟨q, _⟩
  · have hk := cl_s1 h0 hn h1
    rw [e] at hr ⊢
    rw [hr] at hc
    have g := gd_at (n := n.toNatClampNeg) h hc hk
    have a := ff1_at h (show gdB E f en k.toNatClampNeg = true from decide_eq_true hc) (n.toNatClampNeg - 1) (by omega)
    exact Or.inr ⟨rfl, g.1.symm, by omega⟩
  · exact absurd q (by decide)
theorem btI_n {E : (Nat → Int32) → Int32} {f : Nat → Int32} {en k v r n : Int32} {ob : Nat → Int32} (h0 : 0 ≤ k) (h1 : k < 1000) (e : v = k + 1) (h : btI E n.toNatClampNeg f en k 0 ob) (hr : r = E (swp ob k.toNatClampNeg)) (hc : ¬ r < en) : btI E n.toNatClampNeg f en v 0 ob := by
  rcases h with ⟨_, e2, h⟩ | ⟨q, _⟩
  · rw [e2] at hr ⊢
    rw [hr] at hc
    exact Or.inl ⟨rfl, rfl, gd_no h0 h1 e h hc⟩
  · exact absurd q (by decide)
/-- the outer loop -/
def btO (E : (Nat → Int32) → Int32) (n : Nat) (f : Nat → Int32) (kc km : Int32) (oa : Nat → Int32) : Prop := oa = btR E n f kc.toNatClampNeg ∧ kc = btC E n f kc.toNatClampNeg ∧ (km = 0 → ¬ btB E n oa = true)
theorem btO_0 {E : (Nat → Int32) → Int32} {n : Nat} {f : Nat → Int32} : btO E n f 0 1 f := ⟨rfl, rfl, fun q => absurd q (by decide)⟩
theorem btO_y {E : (Nat → Int32) → Int32} {n : Nat} {f oa ob : Nat → Int32} {kc km en ki kn v : Int32} (h0 : 0 ≤ kc) (h1 : kc < 10) (h : btO E n f kc km oa) (he : en = E oa) (hI : btI E n oa en ki kn ob) (hk : ¬ kn = 0) (e : v = kc + 1) : btO E n f v kn ob := by
  rcases hI with ⟨q, _⟩ | ⟨_, e2, h2⟩
  · exact absurd q hk
  · have hb : btB E n (btR E n f kc.toNatClampNeg) = true := by
      rw [← h.1]
      unfold btB
      rw [← he]
      exact decide_eq_true h2
    have hs := cl_s h0 (show kc < 1000 by grind)
    refine ⟨?_, ?_, fun q => absurd q hk⟩
    · rw [e, hs, e2, he, h.1]
      rfl
    · rw [e, hs]
      show kc + 1 = if btB E n (btR E n f kc.toNatClampNeg) = true then btC E n f kc.toNatClampNeg + 1 else btC E n f kc.toNatClampNeg
      rw [if_pos hb, ← h.2.1]
theorem btO_n {E : (Nat → Int32) → Int32} {f oa ob : Nat → Int32} {kc km en ki kn n : Int32} (h : btO E n.toNatClampNeg f kc km oa) (he : en = E oa) (hI : btI E n.toNatClampNeg oa en ki kn ob) (hk : kn = 0) (h0 : 0 ≤ ki) (h1 : ki < 1000) (hn : 0 ≤ n) (hki : ki + 1 ≤ n ∨ ki = 0 ∨ ¬ kn = 0) (hx : n ≤ ki + 1) : btO E n.toNatClampNeg f kc kn ob := by
  rcases hI with ⟨_, e2, h2⟩ | ⟨q, _⟩
  · have g : n.toNatClampNeg - 1 = ki.toNatClampNeg := by
      have h9 := cl_mle hx
      rw [cl_s h0 h1] at h9
      rcases hki with hki | hki | hki
      · have := cl_mle hki
        rw [cl_s h0 h1] at this
        omega
      · rw [hki] at h9 ⊢
        have z : (0 : Int32).toNatClampNeg = 0 := rfl
        omega
      · exact absurd hk hki
    refine ⟨by rw [e2]; exact h.1, h.2.1, fun _ q => ?_⟩
    rw [e2] at q
    unfold btB at q
    have q2 := of_decide_eq_true q
    rw [← he, g, h2] at q2
    omega
  · exact absurd hk (by rw [q]; decide)
theorem btO_e {E : (Nat → Int32) → Int32} {n : Nat} {f oa : Nat → Int32} {kc km : Int32} (h0 : 0 ≤ kc) (h1 : kc ≤ 10) (h : btO E n f kc km oa) (hx : km = 0 ∨ 10 ≤ kc) : oa = btR E n f 10 ∧ kc = btC E n f 10 := by
  obtain ⟨a, b, c⟩ := h
  by_cases q : 10 ≤ kc
  · have e : kc = 10 := by grind
    rw [e] at a b
    refine ⟨a, ?_⟩
    rw [e]
    exact b
  · have hm : km = 0 := by grind
    have h9 := c hm
    rw [a] at h9
    have hl2 := cl_mono (n := 10) h0 (by grind)
    have z : (10 : Int32).toNatClampNeg = 10 := rfl
    have h8 := bt_stop h9 (10 - kc.toNatClampNeg)
    rw [show kc.toNatClampNeg + (10 - kc.toNatClampNeg) = 10 by omega] at h8
    rw [h8.1, h8.2]
    exact ⟨a, b⟩
/-! the reference's best -/
theorem dig_of {n r : Int32} {tb : Nat → Int32} (h0 : 0 ≤ r) (h : ∀ q : Nat, q < n.toNatClampNeg → tb (n.toNatClampNeg - 1 - q) = rmd n (lf n r q)) : ∀ i, i < n.toNatClampNeg → tb i = dig n r.toNatClampNeg i := by
  intro i hi
  have := h (n.toNatClampNeg - 1 - i) (by omega)
  rw [show n.toNatClampNeg - 1 - (n.toNatClampNeg - 1 - i) = i by omega] at this
  unfold dig
  rw [this, ← cl_nI r h0]
theorem vld_iff {n r : Int32} (h0 : 0 ≤ r) : vld n r.toNatClampNeg = true ↔ see n r n.toNatClampNeg = full n := by
  unfold vld
  rw [← cl_nI r h0]
  simp
def bsR (E : (Nat → Int32) → Int32) (n r kl : Int32) (ca : Nat → Int32) : Prop := kl = bsL E n r.toNatClampNeg ∧ (kl = 41 ∨ ∀ i, i < n.toNatClampNeg → ca i = dig n (bsI E n r.toNatClampNeg) i)
theorem bsR_0 {E : (Nat → Int32) → Int32} {n : Int32} {ca : Nat → Int32} : bsR E n 0 41 ca := ⟨rfl, Or.inl rfl⟩
theorem bsR_n {E : (Nat → Int32) → Int32} {n r v kl : Int32} {ca : Nat → Int32} (h0 : 0 ≤ r) (h1 : r < 1000000) (e : v = r + 1) (h : bsR E n r kl ca) (hv : ¬ (vld n r.toNatClampNeg = true ∧ E (dig n r.toNatClampNeg) < kl)) : bsR E n v kl ca := by
  have hs : v.toNatClampNeg = r.toNatClampNeg + 1 := by
    have hp := cl_p (k := v) (v := r) (by grind) (by grind) (by grind)
    omega
  rw [h.1] at hv
  unfold bsR
  rw [hs]
  have e1 : bsL E n (r.toNatClampNeg + 1) = bsL E n r.toNatClampNeg := if_neg hv
  have e2 : bsI E n (r.toNatClampNeg + 1) = bsI E n r.toNatClampNeg := if_neg hv
  rw [e1, e2]
  exact h
theorem bsR_y {E : (Nat → Int32) → Int32} {n r v kl en : Int32} {ca cb : Nat → Int32} (h0 : 0 ≤ r) (h1 : r < 1000000) (e : v = r + 1) (h : bsR E n r kl ca) (hv : vld n r.toNatClampNeg = true) (he : en = E (dig n r.toNatClampNeg)) (hc : en < kl) (hcb : ∀ i, i < n.toNatClampNeg → cb i = dig n r.toNatClampNeg i) : bsR E n v en cb := by
  have hs : v.toNatClampNeg = r.toNatClampNeg + 1 := by
    have hp := cl_p (k := v) (v := r) (by grind) (by grind) (by grind)
    omega
  have hq : vld n r.toNatClampNeg = true ∧ E (dig n r.toNatClampNeg) < bsL E n r.toNatClampNeg := ⟨hv, by rw [← he, ← h.1]; exact hc⟩
  unfold bsR
  rw [hs]
  have e1 : bsL E n (r.toNatClampNeg + 1) = E (dig n r.toNatClampNeg) := if_pos hq
  have e2 : bsI E n (r.toNatClampNeg + 1) = r.toNatClampNeg := if_pos hq
  rw [e1, e2]
  exact ⟨he, Or.inr hcb⟩
theorem bsR_e {E : (Nat → Int32) → Int32} {n al r kl : Int32} {ca : Nat → Int32} (h0 : ¬ n = 0) (h1 : 0 ≤ n) (h2 : n ≤ 5) (hE : ∀ g, E g ≤ 40) (ha : al = pw n n.toNatClampNeg) (hr : r ≤ al) (hx : al ≤ r) (h : bsR E n r kl ca) : ∀ i, i < n.toNatClampNeg → ca i = dig n (bsI E n (pwN n)) i := by
  have e : r = al := by grind
  have er : r.toNatClampNeg = pwN n := by
    rw [e, ha]
    rfl
  unfold bsR at h
  rw [er] at h
  have f := fst_is h0 h1 h2
  have l := bs_le (E := E) f.1 (pwN n) f.2.2.2
  rcases h.2 with q | q
  · have l2 := hE (dig n (ridN n))
    rw [← h.1, q] at l
    exact absurd l (by grind)
  · exact q
/-! the reference's order -/
theorem ord_r {f o2 : Nat → Int32} {n a i k : Int32} (hn : n ≤ 10) (h0 : 0 ≤ k) (h1 : k < n) (hi0 : 0 ≤ i) (hi : i < n) (e : f k.toNatClampNeg = a) (hal : ∀ j : Nat, j < k.toNatClampNeg → f j ≠ a) (eo : o2 = upd (shR (shL f k.toNatClampNeg (n.toNatClampNeg - 1)) i.toNatClampNeg (n.toNatClampNeg - 1)) i.toNatClampNeg a) : k = plc f a n.toNatClampNeg ∧ ∀ j, j < n.toNatClampNeg → o2 j = mv f (plc f a n.toNatClampNeg).toNatClampNeg i.toNatClampNeg j := by
  have hp := plc_f h0 h1 hn e hal
  refine ⟨hp.symm, fun j hj => ?_⟩
  rw [hp, mv_ref (cl_mono h0 h1) (cl_mono hi0 hi) hj, eo, e]
theorem EP_le2 {σ : Int32 → Int32} {mb : (Nat → Int32) → Int32 → Int32 → Bool} {g w : Nat → Int32} {n : Nat} {nw : Int32} (hw : okWh w) (h0 : 0 ≤ nw) (h1 : nw ≤ 39) (h : ∀ d, d ≤ 39 → σ d ≤ 40) : EP σ mb n nw w g ≤ 40 := mxF_le (by decide) n (fun i _ => h _ (okWh_pl (mb := mb) (rf := g) (n := n) hw h0 (by grind) i).2)
