def inP (a b n : Int32) : Prop := 0 ≤ a ∧ a < n ∧ 0 ≤ b ∧ b < n
def bdA (M : Nat → Nat → Int32) (a b d n : Int32) : Prop := d < 0 ∨ 9 < d ∨ a = b ∨ rch M n.toNatClampNeg b.toNatClampNeg a.toNatClampNeg

/-! ===== the reference's leads: bits ===== -/
def mat (u : Nat → Int32) : Nat → Nat → Int32 := fun a b => u (10 * a + b)
theorem ix_cl {a b v w : Int32} (h0 : 0 ≤ a) (h1 : a < 10) (h2 : 0 ≤ b) (h3 : b < 10) (e : v = 10 * a) (e2 : w = v + b) : w.toNatClampNeg = 10 * a.toNatClampNeg + b.toNatClampNeg := by
  obtain ⟨x, hx, rfl⟩ := nI_of (x := a) (by grind)
  obtain ⟨y, hy, rfl⟩ := nI_of (x := b) (by grind)
  have hx10 : x < 10 := by
    rcases Nat.lt_or_ge x 10 with h | h
    · exact h
    · exact absurd (show (10 : Int32) ≤ nI x from nI_le h hx) (by grind)
  have hy10 : y < 10 := by
    rcases Nat.lt_or_ge y 10 with h | h
    · exact h
    · exact absurd (show (10 : Int32) ≤ nI y from nI_le h hy) (by grind)
  have e3 : w = nI (10 * x + y) := by
    rw [e2, e, show (10 : Int32) = nI 10 from rfl, pk_mul, nI_add]
  rw [e3, nI_clamp (by omega), nI_clamp hx, nI_clamp hy]
theorem mat_ix {u : Nat → Int32} {a b v w : Int32} (h0 : 0 ≤ a) (h1 : a < 10) (h2 : 0 ≤ b) (h3 : b < 10) (e : v = 10 * a) (e2 : w = v + b) : u w.toNatClampNeg = mat u a.toNatClampNeg b.toNatClampNeg := by
  rw [ix_cl h0 h1 h2 h3 e e2]
  rfl
def bt (s : Int32) (i : Nat) : Prop := s.toBitVec.getLsbD i = true
theorem bt_or {s t : Int32} {i : Nat} : bt (s ||| t) i ↔ bt s i ∨ bt t i := by
  unfold bt
  rw [Int32.toBitVec_or, BitVec.getLsbD_or, Bool.or_eq_true]
theorem bt_one {i j : Nat} (hi : i < 10) (hj : j < 10) : bt ((1 : Int32) <<< (nI j &&& 31)) i ↔ i = j := by
  have h : ∀ i, i < 10 → ∀ j, j < 10 → (((1 : Int32) <<< (nI j &&& 31)).toBitVec.getLsbD i == (i == j)) = true := by decide
  have := h i hi j hj
  unfold bt
  rw [beq_iff_eq] at this
  rw [this, beq_iff_eq]
theorem bt_0 {i : Nat} : ¬ bt 0 i := by
  unfold bt
  rw [Int32.toBitVec_zero, BitVec.getLsbD_zero]
  decide
theorem bv_t {x : BitVec 32} : x &&& 1#32 = 1#32 ↔ x.getLsbD 0 = true := by
  constructor
  · intro h
    have := congrArg (fun y => BitVec.getLsbD y 0) h
    simp only [BitVec.getLsbD_and] at this
    simpa using this
  · intro h
    apply BitVec.eq_of_getLsbD_eq
    intro i hi
    rw [BitVec.getLsbD_and]
    by_cases e : i = 0
    · subst e
      rw [h]
      rfl
    · have : (1#32).getLsbD i = false := by
        rw [BitVec.getLsbD_one]
        simp [e]
      rw [this]
      simp
theorem sh_i {s : Int32} {k : Nat} (hk : k < 10) : (s >>> (nI k &&& 31)).toBitVec = s.toBitVec.sshiftRight k := by
  have h : ∀ k, k < 10 → ((nI k &&& 31).toBitVec.smod 32).toNat = k := by decide
  rw [Int32.toBitVec_shiftRight]
  show s.toBitVec.sshiftRight ((nI k &&& 31).toBitVec.smod 32).toNat = _
  rw [h k hk]
theorem bt_t {s : Int32} {k : Nat} (hk : k < 10) : (s >>> (nI k &&& 31)) &&& 1 = 1 ↔ bt s k := by
  have e : (s >>> (nI k &&& 31)) &&& 1 = 1 ↔ (s.toBitVec.sshiftRight k) &&& 1#32 = 1#32 := by
    rw [← sh_i hk, ← Int32.toBitVec_inj, Int32.toBitVec_and]
    exact Iff.rfl
  rw [e, bv_t, BitVec.getLsbD_sshiftRight]
  unfold bt
  have h1 : decide (32 ≤ 0) = false := rfl
  rw [h1]
  simp [show k < 32 by omega]
def sdI (M : Nat → Nat → Int32) (n a : Nat) (se wa : Int32) : Prop := bt se a ∧ (∀ y, y < n → bt se y → rch M n a y) ∧ (∀ y, y < n → bt wa y → bt se y) ∧ ∀ x y, x < n → y < n → bt wa x → ¬ M x y = -1 → bt se y
def sdJ (M : Nat → Nat → Int32) (n a : Nat) (s0 se : Int32) (k : Nat) : Prop := bt se a ∧ (∀ y, y < n → bt se y → rch M n a y) ∧ (∀ y, y < n → bt s0 y → bt se y) ∧ ∀ x y, x < k → y < n → bt s0 x → ¬ M x y = -1 → bt se y
def sdK (M : Nat → Nat → Int32) (n a : Nat) (s0 se : Int32) (k j : Nat) : Prop := sdJ M n a s0 se k ∧ ∀ y, y < j → bt s0 k → ¬ M k y = -1 → bt se y
theorem sd_0 {M : Nat → Nat → Int32} {n : Nat} {a : Int32} (h0 : 0 ≤ a) (h1 : a < 10) (hn : n ≤ 10) {v : Int32} (e : v = 1 <<< (a &&& 31)) : sdI M n a.toNatClampNeg v 0 := by
  have ha := cl_nI a h0
  have hl := cl_mono h0 h1
  have z : (10 : Int32).toNatClampNeg = 10 := rfl
  rw [z] at hl
  have key : ∀ i, i < 10 → (bt v i ↔ i = a.toNatClampNeg) := fun i hi => by
    rw [e]
    conv => lhs; rw [ha]
    exact bt_one hi hl
  refine ⟨(key _ hl).mpr rfl, fun y hy hb => ?_, fun y _ hb => absurd hb bt_0, fun x y _ _ hb => absurd hb bt_0⟩
  rw [(key y (by omega)).mp hb]
  exact rch_rf
theorem sd_J {M : Nat → Nat → Int32} {n a : Nat} {se wa : Int32} (h : sdI M n a se wa) : sdJ M n a se se 0 := ⟨h.1, h.2.1, fun _ _ hb => hb, fun _ _ hx => absurd hx (Nat.not_lt_zero _)⟩
theorem sd_K {M : Nat → Nat → Int32} {n a : Nat} {s0 se : Int32} {k : Nat} (h : sdJ M n a s0 se k) : sdK M n a s0 se k 0 := ⟨h, fun _ hx => absurd hx (Nat.not_lt_zero _)⟩
theorem sd_no {M : Nat → Nat → Int32} {n a : Nat} {s0 se : Int32} {k j : Nat} (h : sdK M n a s0 se k j) (hc : ¬ bt s0 k ∨ M k j = -1) : sdK M n a s0 se k (j + 1) := by
  refine ⟨h.1, fun y hy hb e => ?_⟩
  by_cases hyj : y = j
  · subst hyj
    rcases hc with hc | hc
    · exact absurd hb hc
    · exact absurd hc e
  · exact h.2 y (by omega) hb e
theorem sd_or {M : Nat → Nat → Int32} {n a : Nat} {s0 se t : Int32} {k j : Nat} (h : sdK M n a s0 se k j) (hn : n ≤ 10) (hk : k < n) (hj : j < n) (hb : bt s0 k) (e : ¬ M k j = -1) (ht : ∀ i, i < 10 → (bt t i ↔ i = j)) : sdK M n a s0 (se ||| t) k (j + 1) := by
  obtain ⟨⟨h1, h2, h3, h4⟩, h5⟩ := h
  refine ⟨⟨bt_or.mpr (Or.inl h1), fun y hy hbb => ?_, fun y hy hbb => bt_or.mpr (Or.inl (h3 y hy hbb)), fun x y hx hy hbb ee => bt_or.mpr (Or.inl (h4 x y hx hy hbb ee))⟩, fun y hy hbb ee => ?_⟩
  · rcases bt_or.mp hbb with q | q
    · exact h2 y hy q
    · rw [(ht y (by omega)).mp q]
      exact rch_st (h2 k hk (h3 k hk hb)) hk hj e
  · by_cases hyj : y = j
    · exact bt_or.mpr (Or.inr ((ht y (by omega)).mpr hyj))
    · exact bt_or.mpr (Or.inl (h5 y (by omega) hbb ee))
theorem sd_Jn {M : Nat → Nat → Int32} {n a : Nat} {s0 se : Int32} {k : Nat} (h : sdK M n a s0 se k n) : sdJ M n a s0 se (k + 1) := by
  refine ⟨h.1.1, h.1.2.1, h.1.2.2.1, fun x y hx hy hb e => ?_⟩
  by_cases hxk : x = k
  · subst hxk
    exact h.2 y hy hb e
  · exact h.1.2.2.2 x y (by omega) hy hb e
theorem sd_I {M : Nat → Nat → Int32} {n a : Nat} {s0 se : Int32} (h : sdJ M n a s0 se n) : sdI M n a se s0 := h
theorem sd_end {M : Nat → Nat → Int32} {n a b : Nat} {se : Int32} (h : sdI M n a se se) (ha : a < n) (hb : b < n) : bt se b ↔ rch M n a b := by
  constructor
  · exact h.2.1 b hb
  · intro hr
    exact (hr (fun v => v < n ∧ bt se v) ⟨ha, h.1⟩ (fun x y hx hy hs e => ⟨hy, h.2.2.2 x y hx hy hs.2 e⟩)).2
/-! the same told twice -/
def eqM (M : Nat → Nat → Int32) (u : Nat → Int32) : Prop := ∀ a b, a < 10 → b < 10 → M a b = u (10 * a + b)
theorem vup_at {M : Nat → Nat → Int32} {a : Nat} {f : Nat → Int32} : va_up M a f a = f := by simp [va_up]
theorem vup_ne {M : Nat → Nat → Int32} {a b : Nat} {f : Nat → Int32} (h : ¬ b = a) : va_up M a f b = M b := by simp [va_up, h]
theorem eqM_upd {M : Nat → Nat → Int32} {u : Nat → Int32} {x y : Nat} {v : Int32} (h : eqM M u) (hx : x < 10) (hy : y < 10) : eqM (va_up M x (upd (M x) y v)) (upd u (10 * x + y) v) := by
  intro a b ha hb
  by_cases hax : a = x
  · subst hax
    rw [vup_at]
    by_cases hby : b = y
    · subst hby
      rw [upd_at, upd_at]
    · rw [upd_ne hby, upd_ne (by omega)]
      exact h a b ha hb
  · rw [vup_ne hax, upd_ne (by omega)]
    exact h a b ha hb
theorem okLd_upd {M : Nat → Nat → Int32} {x y : Nat} {v : Int32} (h : okLd M) (h0 : 0 ≤ v) (h1 : v ≤ 9) : okLd (va_up M x (upd (M x) y v)) := by
  intro a b ha hb
  by_cases hax : a = x
  · subst hax
    rw [vup_at]
    by_cases hby : b = y
    · subst hby
      rw [upd_at]
      exact Or.inr ⟨h0, h1⟩
    · rw [upd_ne hby]
      exact h a b ha hb
  · rw [vup_ne hax]
    exact h a b ha hb
/-- edges among the first n alone -/
def edg (M : Nat → Nat → Int32) (n : Nat) : Prop := ∀ a b, a < 10 → b < 10 → ¬ M a b = -1 → a < n ∧ b < n
theorem edg_upd {M : Nat → Nat → Int32} {x y n : Nat} {v : Int32} (h : edg M n) (hx : x < n) (hy : y < n) : edg (va_up M x (upd (M x) y v)) n := by
  intro a b ha hb
  by_cases hax : a = x
  · subst hax
    rw [vup_at]
    by_cases hby : b = y
    · subst hby
      exact fun _ => ⟨hx, hy⟩
    · rw [upd_ne hby]
      exact h a b ha hb
  · rw [vup_ne hax]
    exact h a b ha hb
theorem edg_up {M : Nat → Nat → Int32} {n m : Nat} (h : edg M n) (hm : n ≤ m) : edg M m := fun a b ha hb e => ⟨Nat.lt_of_lt_of_le (h a b ha hb e).1 hm, Nat.lt_of_lt_of_le (h a b ha hb e).2 hm⟩
theorem rch_up {M : Nat → Nat → Int32} {n m x y : Nat} (h : edg M n) (hm : m ≤ 10) (hr : rch M m x y) : rch M n x y := fun S hx hc => hr S hx (fun a b ha hb hs e => hc a b (h a b (by omega) (by omega) e).1 (h a b (by omega) (by omega) e).2 hs e)
theorem acy_up {M : Nat → Nat → Int32} {n m : Nat} (h : acy M n) (he : edg M n) (hm : m ≤ 10) : acy M m := fun a b ha hb e hr => h a b (he a b (by omega) (by omega) e).1 (he a b (by omega) (by omega) e).2 e (rch_up he hm hr)
theorem rch_new {M : Nat → Nat → Int32} {n x y : Nat} {v : Int32} {p q : Nat} (hx : x < n) (hy : y < n) (h : rch (va_up M x (upd (M x) y v)) n p q) : rch M n p q ∨ (rch M n p x ∧ rch M n y q) := by
  refine h (fun z => rch M n p z ∨ (rch M n p x ∧ rch M n y z)) (Or.inl rch_rf) (fun a b ha hb hs e => ?_)
  by_cases hab : a = x ∧ b = y
  · obtain ⟨rfl, rfl⟩ := hab
    rcases hs with hs | hs
    · exact Or.inr ⟨hs, rch_rf⟩
    · exact Or.inr ⟨hs.1, rch_rf⟩
  · have e2 : ¬ M a b = -1 := by
      by_cases hax : a = x
      · subst hax
        rw [vup_at, upd_ne (fun z => hab ⟨rfl, z⟩)] at e
        exact e
      · rw [vup_ne hax] at e
        exact e
    rcases hs with hs | hs
    · exact Or.inl (rch_st hs ha hb e2)
    · exact Or.inr ⟨hs.1, rch_st hs.2 ha hb e2⟩
theorem acy_upd {M : Nat → Nat → Int32} {n x y : Nat} {v : Int32} (h : acy M n) (hx : x < n) (hy : y < n) (hr : ¬ rch M n y x) : acy (va_up M x (upd (M x) y v)) n := by
  intro a b ha hb e hc
  by_cases hab : a = x ∧ b = y
  · obtain ⟨rfl, rfl⟩ := hab
    rcases rch_new hx hy hc with q | q
    · exact hr q
    · exact hr q.1
  · have e2 : ¬ M a b = -1 := by
      by_cases hax : a = x
      · subst hax
        rw [vup_at, upd_ne (fun z => hab ⟨rfl, z⟩)] at e
        exact e
      · rw [vup_ne hax] at e
        exact e
    rcases rch_new hx hy hc with q | q
    · exact h a b ha hb e2 q
    · exact hr (rch_tr (rch_st q.2 ha hb e2) q.1)
theorem bt_t' {s k t w : Int32} (h0 : 0 ≤ k) (h1 : k < 10) (et : t = s >>> (k &&& 31)) (eu : w = t &&& 1) : w = 1 ↔ bt s k.toNatClampNeg := by
  have hk := cl_mono h0 h1
  have z : (10 : Int32).toNatClampNeg = 10 := rfl
  rw [z] at hk
  have e := bt_t (s := s) hk
  rw [← cl_nI k h0] at e
  rw [eu, et]
  exact e
theorem sd_n1 {u : Nat → Int32} {n a : Nat} {s0 se k1 k2 v t w : Int32} (h0 : 0 ≤ k1) (h1 : k1 < 10) (g0 : 0 ≤ k2) (g1 : k2 < 1000) (e : v = k2 + 1) (et : t = s0 >>> (k1 &&& 31)) (eu : w = t &&& 1) (hc : ¬ w = 1) (hk : sdK (mat u) n a s0 se k1.toNatClampNeg k2.toNatClampNeg) : sdK (mat u) n a s0 se k1.toNatClampNeg v.toNatClampNeg := by
  rw [e, cl_s g0 g1]
  exact sd_no hk (Or.inl (fun q => hc ((bt_t' h0 h1 et eu).mpr q)))
theorem sd_n2 {u : Nat → Int32} {n a : Nat} {s0 se k1 k2 v m : Int32} (g0 : 0 ≤ k2) (g1 : k2 < 1000) (e : v = k2 + 1) (em : m = mat u k1.toNatClampNeg k2.toNatClampNeg) (hm : m = -1) (hk : sdK (mat u) n a s0 se k1.toNatClampNeg k2.toNatClampNeg) : sdK (mat u) n a s0 se k1.toNatClampNeg v.toNatClampNeg := by
  rw [e, cl_s g0 g1]
  exact sd_no hk (Or.inr (by rw [← em]; exact hm))
theorem sd_n3 {u : Nat → Int32} {n a : Nat} {s0 se k1 k2 v t w m x s2 : Int32} (h0 : 0 ≤ k1) (h1 : k1 < 10) (hn : n ≤ 10) (hkn : k1.toNatClampNeg < n) (hjn : k2.toNatClampNeg < n) (g0 : 0 ≤ k2) (g1 : k2 < 10) (e : v = k2 + 1) (et : t = s0 >>> (k1 &&& 31)) (eu : w = t &&& 1) (hc : w = 1) (em : m = mat u k1.toNatClampNeg k2.toNatClampNeg) (hm : ¬ m = -1) (ex : x = 1 <<< (k2 &&& 31)) (es : s2 = se ||| x) (hk : sdK (mat u) n a s0 se k1.toNatClampNeg k2.toNatClampNeg) : sdK (mat u) n a s0 s2 k1.toNatClampNeg v.toNatClampNeg := by
  rw [e, cl_s g0 (by grind), es]
  refine sd_or hk hn hkn hjn ((bt_t' h0 h1 et eu).mp hc) (by rw [← em]; exact hm) (fun i hi => ?_)
  rw [ex]
  have e2 := bt_one (i := i) (j := k2.toNatClampNeg) hi (by omega)
  rw [← cl_nI k2 g0] at e2
  exact e2
theorem sd_Jv {M : Nat → Nat → Int32} {n a : Nat} {s0 se k v : Int32} (h0 : 0 ≤ k) (h1 : k < 1000) (e : v = k + 1) (h : sdK M n a s0 se k.toNatClampNeg n) : sdJ M n a s0 se v.toNatClampNeg := by
  rw [e, cl_s h0 h1]
  exact sd_Jn h
theorem sd_fin {M : Nat → Nat → Int32} {n a : Nat} {se wa b t w : Int32} (hI : sdI M n a se wa) (e : se = wa) (ha : a < n) (hb : b.toNatClampNeg < n) (h0 : 0 ≤ b) (h1 : b < 10) (et : t = se >>> (b &&& 31)) (eu : w = t &&& 1) : w = 1 ↔ rch M n a b.toNatClampNeg := by
  subst e
  exact (bt_t' h0 h1 et eu).trans (sd_end hI ha hb)
theorem eqM_rch {M : Nat → Nat → Int32} {u : Nat → Int32} {n x y : Nat} (h : eqM M u) (hn : n ≤ 10) : rch M n x y ↔ rch (mat u) n x y := ⟨rch_eq (fun a b ha hb => h a b (by omega) (by omega)), rch_eq (fun a b ha hb => (h a b (by omega) (by omega)).symm)⟩
theorem okLd_mat {M : Nat → Nat → Int32} {u : Nat → Int32} (h : eqM M u) (hM : okLd M) : okLd (mat u) := by
  intro a b ha hb
  have e : mat u a b = M a b := (h a b ha hb).symm
  rw [e]
  exact hM a b ha hb
theorem ahead_all {M M2 : Nat → Nat → Int32} {u u2 : Nat → Int32} {n a b d r s : Int32} (hn1 : n ≤ 10) (hE : eqM M u) (hM : okLd M) (hA : acy M n.toNatClampNeg) (hG : edg M n.toNatClampNeg) (P0 : ¬ inP a b n → r = -1 ∧ M2 = M) (P1 : inP a b n → bdA M a b d n → r = -2 ∧ M2 = M) (P2 : inP a b n → ¬ bdA M a b d n → r = M a.toNatClampNeg b.toNatClampNeg ∧ M2 = va_up M a.toNatClampNeg (upd (M a.toNatClampNeg) b.toNatClampNeg d)) (Q0 : ¬ inP a b n → s = -1 ∧ u2 = u) (Q1 : inP a b n → bdA (mat u) a b d n → s = -2 ∧ u2 = u) (Q2 : inP a b n → ¬ bdA (mat u) a b d n → s = mat u a.toNatClampNeg b.toNatClampNeg ∧ u2 = upd u (10 * a.toNatClampNeg + b.toNatClampNeg) d) : r = s ∧ eqM M2 u2 ∧ okLd M2 ∧ acy M2 n.toNatClampNeg ∧ edg M2 n.toNatClampNeg := by
  have hn : n.toNatClampNeg ≤ 10 := cl_le (M := 10) (k := 10) rfl hn1
  have hb : bdA M a b d n ↔ bdA (mat u) a b d n := by
    unfold bdA
    rw [eqM_rch hE hn]
  by_cases h : inP a b n
  · by_cases h2 : bdA M a b d n
    · obtain ⟨rfl, rfl⟩ := P1 h h2
      obtain ⟨rfl, rfl⟩ := Q1 h (hb.mp h2)
      exact ⟨rfl, hE, hM, hA, hG⟩
    · obtain ⟨rfl, rfl⟩ := P2 h h2
      obtain ⟨rfl, rfl⟩ := Q2 h (fun q => h2 (hb.mpr q))
      have ha := cl_mono h.1 h.2.1
      have hbn := cl_mono h.2.2.1 h.2.2.2
      unfold bdA at h2
      refine ⟨hE _ _ (by omega) (by omega), eqM_upd hE (by omega) (by omega), okLd_upd hM (by grind) (by grind), acy_upd hA ha hbn (fun q => h2 (Or.inr (Or.inr (Or.inr q)))), edg_upd hG ha hbn⟩
  · obtain ⟨rfl, rfl⟩ := P0 h
    obtain ⟨rfl, rfl⟩ := Q0 h
    exact ⟨rfl, hE, hM, hA, hG⟩
theorem bound_eq {M : Nat → Nat → Int32} {u w v : Nat → Int32} {n : Nat} (hE : eqM M u) (hM : okLd M) (hA : acy M n) (hn : n ≤ 10) (h0 : ∀ i : Nat, i < n → w i = 0) (h1 : ∀ i : Nat, i < n → v i = 0) : mxF (r3 M n w (n - 1)) n = mxF (r3 (mat u) n v n) n := by
  rw [← r3_more hM hn hA h0]
  exact mxF_eq n (r3_eq (fun a b ha hb => hE a b (by omega) (by omega)) (fun i hi => by rw [h0 i hi, h1 i hi]) n)
theorem bound_all {M : Nat → Nat → Int32} {u w v : Nat → Int32} {n r s : Int32} (hE : eqM M u) (hM : okLd M) (hA : acy M n.toNatClampNeg) (hn1 : n ≤ 10) (h0 : ∀ i : Nat, i < n.toNatClampNeg → w i = 0) (h1 : ∀ i : Nat, i < n.toNatClampNeg → v i = 0) (P0 : n = 0 → r = 0) (P1 : ¬ n = 0 → r = mxF (r3 M n.toNatClampNeg w (n.toNatClampNeg - 1)) n.toNatClampNeg + 1) (Q0 : n = 0 → s = 0) (Q1 : ¬ n = 0 → s = mxF (r3 (mat u) n.toNatClampNeg v n.toNatClampNeg) n.toNatClampNeg + 1) : r = s := by
  by_cases h : n = 0
  · rw [P0 h, Q0 h]
  · rw [P1 h, Q1 h, bound_eq hE hM hA (cl_le (M := 10) (k := 10) rfl hn1) h0 h1]
theorem acy_sNum {M : Nat → Nat → Int32} {n m : Int32} (h : acy M n.toNatClampNeg) (he : edg M n.toNatClampNeg) (hm : m ≤ 10) (hnm : n ≤ m) : acy M m.toNatClampNeg ∧ edg M m.toNatClampNeg := ⟨acy_up h he (cl_le (M := 10) (k := 10) rfl hm), edg_up he (cl_mle hnm)⟩
