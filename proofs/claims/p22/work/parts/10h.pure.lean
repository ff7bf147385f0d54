/-! ===== moves in a row ===== -/
theorem shL_e (f : Nat → Int32) {a b : Nat} (h : b ≤ a) : shL f a b = f := by
  funext j
  unfold shL
  rw [if_neg (by omega)]
theorem shR_e (f : Nat → Int32) {k n : Nat} (h : n ≤ k) : shR f k n = f := by
  funext j
  unfold shR
  rw [if_neg (by omega)]
def mv (f : Nat → Int32) (a b : Nat) : Nat → Int32 := upd (shR (shL f a b) b a) b (f a)
def swp (f : Nat → Int32) (i : Nat) : Nat → Int32 := upd (upd f i (f (i + 1))) (i + 1) (f i)
theorem mv_swp (f : Nat → Int32) (i : Nat) : mv f i (i + 1) = swp f i := by
  funext j
  unfold mv swp
  rw [shR_e _ (by omega)]
  by_cases h1 : j = i + 1
  · rw [h1, upd_at, upd_at]
  · rw [upd_ne h1, upd_ne h1]
    unfold shL
    by_cases h2 : j = i
    · rw [h2, upd_at, if_pos (by omega)]
    · rw [upd_ne h2, if_neg (by omega)]
theorem mv_ref {f : Nat → Int32} {a b n : Nat} (ha : a < n) (hb : b < n) {j : Nat} (hj : j < n) : mv f a b j = upd (shR (shL f a (n - 1)) b (n - 1)) b (f a) j := by
  unfold mv
  by_cases h1 : j = b
  · rw [h1, upd_at, upd_at]
  · rw [upd_ne h1, upd_ne h1]
    unfold shR
    by_cases h2 : b < j
    · rw [if_pos (show b < j ∧ j ≤ n - 1 by omega)]
      by_cases h3 : j ≤ a
      · rw [if_pos ⟨h2, h3⟩, shL_e _ (show b ≤ a by omega)]
        unfold shL
        rw [if_neg (by omega)]
      · rw [if_neg (by omega)]
        unfold shL
        rw [if_neg (by omega), if_pos (by omega), show j - 1 + 1 = j by omega]
    · rw [if_neg (by omega), if_neg (by omega)]
      unfold shL
      by_cases h3 : a ≤ j
      · rw [if_pos (by omega), if_pos (by omega)]
      · rw [if_neg (by omega), if_neg (by omega)]
theorem mv_eq {f g : Nat → Int32} {a b n : Nat} (ha : a < n) (hb : b < n) (h : ∀ j, j < n → f j = g j) : ∀ j, j < n → mv f a b j = mv g a b j := by
  intro j hj
  unfold mv
  by_cases h1 : j = b
  · rw [h1, upd_at, upd_at]
    exact h a ha
  · rw [upd_ne h1, upd_ne h1]
    unfold shR shL
    by_cases h2 : b < j ∧ j ≤ a
    · rw [if_pos h2, if_pos h2]
      by_cases h3 : a ≤ j - 1 ∧ j - 1 < b
      · rw [if_pos h3, if_pos h3]
        exact h _ (by omega)
      · rw [if_neg h3, if_neg h3]
        exact h _ (by omega)
    · rw [if_neg h2, if_neg h2]
      by_cases h3 : a ≤ j ∧ j < b
      · rw [if_pos h3, if_pos h3]
        exact h _ (by omega)
      · rw [if_neg h3, if_neg h3]
        exact h _ hj
def okP (f : Nat → Int32) (n : Int32) : Prop := okRow f n ∧ okHas f n
theorem okP_mv {f : Nat → Int32} {n : Int32} {a b : Nat} (h : okP f n) (ha : a < n.toNatClampNeg) (hb : b < n.toNatClampNeg) : okP (mv f a b) n := ok_same (fun _ hj => mv_ref ha hb hj) (ok_move h ha hb rfl)
theorem okP_swp {f : Nat → Int32} {n : Int32} {i : Nat} (h : okP f n) (hi : i + 1 < n.toNatClampNeg) : okP (swp f i) n := ⟨okRow_swap h.1 (by omega) hi, okHas_swap h.2 (by omega) hi⟩
theorem okP_eq {f g : Nat → Int32} {n : Int32} (h : okP f n) (e : ∀ j, j < n.toNatClampNeg → g j = f j) : okP g n := ok_same e h
theorem swp_eq {f g : Nat → Int32} {i n : Nat} (hi : i + 1 < n) (h : ∀ j, j < n → f j = g j) : ∀ j, j < n → swp f i j = swp g i j := by
  intro j hj
  rw [← mv_swp, ← mv_swp]
  exact mv_eq (by omega) hi h j hj
theorem swp_swp (f : Nat → Int32) (i : Nat) : swp (swp f i) i = f := by
  funext j
  unfold swp
  by_cases h1 : j = i + 1
  · rw [h1, upd_at, upd_ne (by omega), upd_at]
  · rw [upd_ne h1]
    by_cases h2 : j = i
    · rw [h2, upd_at, upd_at]
    · rw [upd_ne h2, upd_ne h1, upd_ne h2]
theorem swp_back (f : Nat → Int32) (i : Nat) : upd (upd (swp f i) (i + 1) (swp f i i)) i (f i) = f := by
  funext j
  by_cases h2 : j = i
  · rw [h2, upd_at]
  · rw [upd_ne h2]
    by_cases h1 : j = i + 1
    · rw [h1, upd_at]
      unfold swp
      rw [upd_ne (by omega), upd_at]
    · rw [upd_ne h1]
      unfold swp
      rw [upd_ne h1, upd_ne h2]
/-! ===== a plan's end by a row ===== -/
def EP (σ : Int32 → Int32) (mb : (Nat → Int32) → Int32 → Int32 → Bool) (n : Nat) (nw : Int32) (w g : Nat → Int32) : Int32 := enF σ (plF mb g n nw w) n
theorem inF_row {mb : (Nat → Int32) → Int32 → Int32 → Bool} {rf rg w : Nat → Int32} {n : Nat} {day : Int32} (h : ∀ i, i < n → rf i = rg i) : ∀ k, k ≤ n → inF mb rf day w k = inF mb rg day w k
  | 0, _ => rfl
  | k + 1, hk => by
    have ih := inF_row (mb := mb) (w := w) (day := day) h k (by omega)
    show (if inF mb rf day w k (rf k).toNatClampNeg = -1 ∧ mb (inF mb rf day w k) (rf k) day = true then upd (inF mb rf day w k) (rf k).toNatClampNeg day else inF mb rf day w k) = (if inF mb rg day w k (rg k).toNatClampNeg = -1 ∧ mb (inF mb rg day w k) (rg k) day = true then upd (inF mb rg day w k) (rg k).toNatClampNeg day else inF mb rg day w k)
    rw [ih, h k (by omega)]
theorem dyF_row {mb : (Nat → Int32) → Int32 → Int32 → Bool} {rf rg w : Nat → Int32} {n : Nat} {nw : Int32} (h : ∀ i, i < n → rf i = rg i) : ∀ j, dyF mb rf n nw w j = dyF mb rg n nw w j
  | 0 => rfl
  | j + 1 => by
    show inF mb rf (nw + nI j) (dyF mb rf n nw w j) n = inF mb rg (nw + nI j) (dyF mb rg n nw w j) n
    rw [dyF_row h j]
    exact inF_row h n (Nat.le_refl _)
theorem plF_row {mb : (Nat → Int32) → Int32 → Int32 → Bool} {rf rg w : Nat → Int32} {n : Nat} {nw : Int32} (h : ∀ i, i < n → rf i = rg i) : plF mb rf n nw w = plF mb rg n nw w := dyF_row h _
theorem EP_row {σ : Int32 → Int32} {mb : (Nat → Int32) → Int32 → Int32 → Bool} {rf rg w : Nat → Int32} {n : Nat} {nw : Int32} (h : ∀ i, i < n → rf i = rg i) : EP σ mb n nw w rf = EP σ mb n nw w rg := by
  unfold EP
  rw [plF_row h]
theorem EP_unp {σ : Int32 → Int32} {mb : (Nat → Int32) → Int32 → Int32 → Bool} {g w v : Nat → Int32} {n : Nat} {nw : Int32} (h : unp n nw w = unp n nw v) : EP σ mb n nw w g = EP σ mb n nw v g := by
  unfold EP
  rw [plF_unp h]
theorem mxF_le {w : Nat → Int32} {m : Int32} (h0 : 0 ≤ m) : ∀ k, (∀ i, i < k → w i ≤ m) → mxF w k ≤ m
  | 0, _ => h0
  | k + 1, h => by
    have ih := mxF_le (w := w) h0 k (fun i hi => h i (by omega))
    have hk := h k (by omega)
    show mx (mxF w k) (w k) ≤ m
    unfold mx
    split
    · exact hk
    · exact ih
theorem EP_le {σ : Int32 → Int32} {mb : (Nat → Int32) → Int32 → Int32 → Bool} {g w : Nat → Int32} {n : Nat} {nw : Int32} (h : ∀ d, σ d ≤ 40) : EP σ mb n nw w g ≤ 40 := mxF_le (by decide) n (fun _ _ => h _)
/-! ===== to better ===== -/
def ff1 (b : Nat → Bool) : Nat → Nat
  | 0 => 0
  | k + 1 => if ff1 b k < k then ff1 b k else if b k = true then k else k + 1
theorem ff1_no {b : Nat → Bool} {k : Nat} (h : ff1 b k = k) (hb : ¬ b k = true) : ff1 b (k + 1) = k + 1 := by
  show (if ff1 b k < k then ff1 b k else if b k = true then k else k + 1) = k + 1
  rw [h, if_neg (by omega), if_neg hb]
theorem ff1_at {b : Nat → Bool} {k : Nat} (h : ff1 b k = k) (hb : b k = true) : ∀ n, k < n → ff1 b n = k
  | 0, hn => absurd hn (Nat.not_lt_zero _)
  | n + 1, hn => by
    show (if ff1 b n < n then ff1 b n else if b n = true then n else n + 1) = k
    by_cases q : k = n
    · subst q
      rw [h, if_neg (by omega), if_pos hb]
    · have ih := ff1_at h hb n (by omega)
      rw [ih, if_pos (by omega)]
theorem ff1_eq {b c : Nat → Bool} : ∀ n, (∀ i, i < n → b i = c i) → ff1 b n = ff1 c n
  | 0, _ => rfl
  | n + 1, h => by
    show (if ff1 b n < n then ff1 b n else if b n = true then n else n + 1) = (if ff1 c n < n then ff1 c n else if c n = true then n else n + 1)
    rw [ff1_eq n (fun i hi => h i (by omega)), h n (by omega)]
theorem ff1_t {b : Nat → Bool} : ∀ n, ff1 b n < n → b (ff1 b n) = true
  | 0, h => absurd h (Nat.not_lt_zero _)
  | n + 1, h => by
    have h2 : (if ff1 b n < n then ff1 b n else if b n = true then n else n + 1) < n + 1 := h
    show b (if ff1 b n < n then ff1 b n else if b n = true then n else n + 1) = true
    by_cases q : ff1 b n < n
    · rw [if_pos q]
      exact ff1_t n q
    · rw [if_neg q] at h2 ⊢
      by_cases r : b n = true
      · rw [if_pos r]
        exact r
      · rw [if_neg r] at h2
        omega
def gdB (E : (Nat → Int32) → Int32) (f : Nat → Int32) (en : Int32) : Nat → Bool := fun j => decide (E (swp f j) < en)
def gst (E : (Nat → Int32) → Int32) (n : Nat) (f : Nat → Int32) (en : Int32) : Nat → Int32 := if ff1 (gdB E f en) (n - 1) < n - 1 then swp f (ff1 (gdB E f en) (n - 1)) else f
def gen (E : (Nat → Int32) → Int32) (n : Nat) (f : Nat → Int32) (en : Int32) : Int32 := if ff1 (gdB E f en) (n - 1) < n - 1 then E (gst E n f en) else en
def btR (E : (Nat → Int32) → Int32) (n : Nat) (f : Nat → Int32) : Nat → (Nat → Int32)
  | 0 => f
  | t + 1 => gst E n (btR E n f t) (E (btR E n f t))
def btB (E : (Nat → Int32) → Int32) (n : Nat) (f : Nat → Int32) : Bool := decide (ff1 (gdB E f (E f)) (n - 1) < n - 1)
def btC (E : (Nat → Int32) → Int32) (n : Nat) (f : Nat → Int32) : Nat → Int32
  | 0 => 0
  | t + 1 => if btB E n (btR E n f t) = true then btC E n f t + 1 else btC E n f t
theorem gst_no {E : (Nat → Int32) → Int32} {n : Nat} {f : Nat → Int32} (h : ¬ btB E n f = true) : gst E n f (E f) = f := by
  unfold btB at h
  unfold gst
  rw [if_neg (fun q => h (decide_eq_true q))]
theorem bt_stop {E : (Nat → Int32) → Int32} {n : Nat} {f : Nat → Int32} {t : Nat} (h : ¬ btB E n (btR E n f t) = true) : ∀ m, btR E n f (t + m) = btR E n f t ∧ btC E n f (t + m) = btC E n f t
  | 0 => ⟨rfl, rfl⟩
  | m + 1 => by
    have ih := bt_stop h m
    show gst E n (btR E n f (t + m)) (E (btR E n f (t + m))) = _ ∧ (if btB E n (btR E n f (t + m)) = true then btC E n f (t + m) + 1 else btC E n f (t + m)) = _
    rw [ih.1, if_neg h]
    exact ⟨gst_no h, ih.2⟩
/-- END gets less just where a change is made -/
theorem gen_lt {E : (Nat → Int32) → Int32} {n : Nat} {f : Nat → Int32} : gen E n f (E f) < E f ↔ btB E n f = true := by
  unfold gen btB
  by_cases h : ff1 (gdB E f (E f)) (n - 1) < n - 1
  · have t := ff1_t _ h
    unfold gdB at t
    have t2 := of_decide_eq_true t
    rw [if_pos h]
    constructor
    · intro _
      exact decide_eq_true h
    · intro _
      unfold gst
      rw [if_pos h]
      exact t2
  · rw [if_neg h]
    constructor
    · intro q
      exact absurd q (by grind)
    · intro q
      exact absurd (of_decide_eq_true q) h
theorem gen_E {E : (Nat → Int32) → Int32} {n : Nat} {f : Nat → Int32} : gen E n f (E f) = E (gst E n f (E f)) := by
  unfold gen
  by_cases h : ff1 (gdB E f (E f)) (n - 1) < n - 1
  · rw [if_pos h]
  · rw [if_neg h]
    unfold gst
    rw [if_neg h]
theorem gst_ok {E : (Nat → Int32) → Int32} {f : Nat → Int32} {n en : Int32} (h : okP f n) : okP (gst E n.toNatClampNeg f en) n := by
  unfold gst
  split
  · exact okP_swp h (by omega)
  · exact h
theorem btR_ok {E : (Nat → Int32) → Int32} {f : Nat → Int32} {n : Int32} (h : okP f n) : ∀ t, okP (btR E n.toNatClampNeg f t) n
  | 0 => h
  | t + 1 => gst_ok (btR_ok h t)
theorem gdB_eq {E F : (Nat → Int32) → Int32} {f g : Nat → Int32} {n en : Int32} (hE : ∀ a b : Nat → Int32, okP a n → (∀ j, j < n.toNatClampNeg → a j = b j) → E a = F b) (h : okP f n) (e : ∀ j, j < n.toNatClampNeg → f j = g j) : ff1 (gdB E f en) (n.toNatClampNeg - 1) = ff1 (gdB F g en) (n.toNatClampNeg - 1) := ff1_eq _ (fun i hi => by
  unfold gdB
  rw [hE (swp f i) (swp g i) (okP_swp h (by omega)) (swp_eq (by omega) e)])
theorem gst_eq {E F : (Nat → Int32) → Int32} {f g : Nat → Int32} {n en : Int32} (hE : ∀ a b : Nat → Int32, okP a n → (∀ j, j < n.toNatClampNeg → a j = b j) → E a = F b) (h : okP f n) (e : ∀ j, j < n.toNatClampNeg → f j = g j) : ∀ j, j < n.toNatClampNeg → gst E n.toNatClampNeg f en j = gst F n.toNatClampNeg g en j := by
  have h1 := gdB_eq (en := en) hE h e
  intro j hj
  unfold gst
  rw [h1]
  split
  · exact swp_eq (by omega) e j hj
  · exact e j hj
theorem btR_eq {E F : (Nat → Int32) → Int32} {f g : Nat → Int32} {n : Int32} (hE : ∀ a b : Nat → Int32, okP a n → (∀ j, j < n.toNatClampNeg → a j = b j) → E a = F b) (h : okP f n) (e : ∀ j, j < n.toNatClampNeg → f j = g j) : ∀ t, (∀ j, j < n.toNatClampNeg → btR E n.toNatClampNeg f t j = btR F n.toNatClampNeg g t j) ∧ btC E n.toNatClampNeg f t = btC F n.toNatClampNeg g t
  | 0 => ⟨e, rfl⟩
  | t + 1 => by
    have ih := btR_eq hE h e t
    have ok := btR_ok (E := E) h t
    have h1 := hE _ _ ok ih.1
    have h2 := gdB_eq (en := E (btR E n.toNatClampNeg f t)) hE ok ih.1
    refine ⟨?_, ?_⟩
    · show ∀ j, j < n.toNatClampNeg → gst E n.toNatClampNeg (btR E n.toNatClampNeg f t) (E (btR E n.toNatClampNeg f t)) j = gst F n.toNatClampNeg (btR F n.toNatClampNeg g t) (F (btR F n.toNatClampNeg g t)) j
      rw [← h1]
      exact gst_eq hE ok ih.1
    · show (if btB E n.toNatClampNeg (btR E n.toNatClampNeg f t) = true then btC E n.toNatClampNeg f t + 1 else btC E n.toNatClampNeg f t) = (if btB F n.toNatClampNeg (btR F n.toNatClampNeg g t) = true then btC F n.toNatClampNeg g t + 1 else btC F n.toNatClampNeg g t)
      unfold btB
      rw [← h1, h2, ih.2]
/-! ===== the next row by numbers ===== -/
def swI (f : Nat → Int32) (i j : Nat) : Nat → Int32 := upd (upd f i (f j)) j (f i)
def pv (f : Nat → Int32) : Nat → Nat
  | 0 => 0
  | k + 1 => if f (k + 1) < f k then pv f k else k + 1
def sj (f : Nat → Int32) (i : Nat) : Nat → Nat
  | 0 => 0
  | k + 1 => if i < k + 1 ∧ f (k + 1) < f i then sj f i k else k + 1
def rvP (f : Nat → Int32) (lo hi a b : Nat) : Nat → Int32 := fun j => if (lo ≤ j ∧ j < a) ∨ (b < j ∧ j ≤ hi) then f (lo + hi - j) else f j
def rvF (f : Nat → Int32) (lo hi : Nat) : Nat → Int32 := fun j => if lo ≤ j ∧ j ≤ hi then f (lo + hi - j) else f j
def nxF (f : Nat → Int32) (n : Nat) : Nat → Int32 := if pv f (n - 1) = 0 then f else rvF (swI f (pv f (n - 1) - 1) (sj f (pv f (n - 1) - 1) (n - 1))) (pv f (n - 1)) (n - 1)
theorem rvP_0 (f : Nat → Int32) (lo hi : Nat) : rvP f lo hi lo hi = f := by
  funext j
  unfold rvP
  rw [if_neg (by omega)]
theorem rvP_s (f : Nat → Int32) {lo hi a b : Nat} (h1 : lo ≤ a) (h2 : a < b) (h3 : b ≤ hi) (h4 : a + b = lo + hi) : swI (rvP f lo hi a b) a b = rvP f lo hi (a + 1) (b - 1) := by
  funext j
  unfold swI
  by_cases e1 : j = b
  · rw [e1, upd_at]
    unfold rvP
    rw [if_neg (by omega), if_pos (by omega)]
    congr 1
    omega
  · rw [upd_ne e1]
    by_cases e2 : j = a
    · rw [e2, upd_at]
      unfold rvP
      rw [if_neg (by omega), if_pos (by omega)]
      congr 1
      omega
    · rw [upd_ne e2]
      unfold rvP
      by_cases e3 : (lo ≤ j ∧ j < a) ∨ (b < j ∧ j ≤ hi)
      · rw [if_pos e3, if_pos (by omega)]
      · rw [if_neg e3, if_neg (by omega)]
theorem rvP_e (f : Nat → Int32) {lo hi a b : Nat} (h1 : lo ≤ a) (h2 : b ≤ a) (h3 : b ≤ hi) (h4 : a + b = lo + hi) (h5 : a ≤ b + 1) : rvP f lo hi a b = rvF f lo hi := by
  funext j
  unfold rvP rvF
  by_cases e3 : (lo ≤ j ∧ j < a) ∨ (b < j ∧ j ≤ hi)
  · by_cases e4 : lo ≤ j ∧ j ≤ hi
    · rw [if_pos e3, if_pos e4]
    · rw [if_pos e3, if_neg e4]
      congr 1
      omega
  · rw [if_neg e3]
    by_cases e4 : lo ≤ j ∧ j ≤ hi
    · rw [if_pos e4]
      congr 1
      omega
    · rw [if_neg e4]
theorem pv_le (f : Nat → Int32) : ∀ k, pv f k ≤ k
  | 0 => Nat.le_refl _
  | k + 1 => by
    have := pv_le f k
    show (if f (k + 1) < f k then pv f k else k + 1) ≤ k + 1
    split <;> omega
theorem sj_le (f : Nat → Int32) (i : Nat) : ∀ k, sj f i k ≤ k
  | 0 => Nat.le_refl _
  | k + 1 => by
    have := sj_le f i k
    show (if i < k + 1 ∧ f (k + 1) < f i then sj f i k else k + 1) ≤ k + 1
    split <;> omega
theorem pv_eq {f g : Nat → Int32} : ∀ k, (∀ j, j ≤ k → f j = g j) → pv f k = pv g k
  | 0, _ => rfl
  | k + 1, h => by
    show (if f (k + 1) < f k then pv f k else k + 1) = (if g (k + 1) < g k then pv g k else k + 1)
    rw [pv_eq k (fun j hj => h j (by omega)), h (k + 1) (Nat.le_refl _), h k (by omega)]
theorem sj_eq {f g : Nat → Int32} {i : Nat} : ∀ k, (∀ j, j ≤ k → f j = g j) → f i = g i → sj f i k = sj g i k
  | 0, _, _ => rfl
  | k + 1, h, e => by
    show (if i < k + 1 ∧ f (k + 1) < f i then sj f i k else k + 1) = (if i < k + 1 ∧ g (k + 1) < g i then sj g i k else k + 1)
    rw [sj_eq k (fun j hj => h j (by omega)) e, h (k + 1) (Nat.le_refl _), e]
theorem swI_eq {f g : Nat → Int32} {a b n : Nat} (ha : a < n) (hb : b < n) (h : ∀ j, j < n → f j = g j) : ∀ j, j < n → swI f a b j = swI g a b j := by
  intro j hj
  unfold swI
  by_cases e1 : j = b
  · rw [e1, upd_at, upd_at]
    exact h a ha
  · rw [upd_ne e1, upd_ne e1]
    by_cases e2 : j = a
    · rw [e2, upd_at, upd_at]
      exact h b hb
    · rw [upd_ne e2, upd_ne e2]
      exact h j hj
theorem nxF_eq {f g : Nat → Int32} {n : Nat} (hn : 0 < n) (h : ∀ j, j < n → f j = g j) : pv f (n - 1) = pv g (n - 1) ∧ ∀ j, j < n → nxF f n j = nxF g n j := by
  have h1 : pv f (n - 1) = pv g (n - 1) := pv_eq (n - 1) (fun j hj => h j (by omega))
  refine ⟨h1, fun j hj => ?_⟩
  have p := pv_le g (n - 1)
  have h2 : sj f (pv g (n - 1) - 1) (n - 1) = sj g (pv g (n - 1) - 1) (n - 1) := sj_eq (n - 1) (fun j hj => h j (by omega)) (h _ (by omega))
  have q := sj_le g (pv g (n - 1) - 1) (n - 1)
  unfold nxF
  rw [h1, h2]
  split
  · exact h j hj
  · unfold rvF
    split
    · exact swI_eq (by omega) (by omega) h _ (by omega)
    · exact swI_eq (by omega) (by omega) h _ hj
