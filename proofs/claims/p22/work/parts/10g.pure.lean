/-! ===== places in a row ===== -/
def plc (f : Nat → Int32) (a : Int32) : Nat → Int32
  | 0 => -1
  | k + 1 => if plc f a k = -1 then (if f k = a then nI k else -1) else plc f a k
theorem plc_no {f : Nat → Int32} {a : Int32} : ∀ n, (∀ j, j < n → ¬ f j = a) → plc f a n = -1
  | 0, _ => rfl
  | n + 1, h => by
    show (if plc f a n = -1 then (if f n = a then nI n else -1) else plc f a n) = -1
    rw [plc_no n (fun j hj => h j (by omega)), if_pos rfl, if_neg (h n (by omega))]
theorem plc_at {f : Nat → Int32} {a : Int32} {k : Nat} (hk : k < 1000) (e : f k = a) (h : ∀ j, j < k → ¬ f j = a) : ∀ n, k < n → plc f a n = nI k
  | 0, hn => absurd hn (Nat.not_lt_zero _)
  | n + 1, hn => by
    show (if plc f a n = -1 then (if f n = a then nI n else -1) else plc f a n) = nI k
    by_cases q : k = n
    · subst q
      rw [plc_no k h, if_pos rfl, if_pos e]
    · have ih := plc_at hk e h n (by omega)
      have h1 : ¬ nI k = -1 := by
        intro z
        have p := nI_pos' (n := k) (by omega)
        rw [z] at p
        exact absurd p (by decide)
      rw [ih, if_neg h1]
theorem plc_eq {f g : Nat → Int32} {a : Int32} : ∀ n, (∀ j, j < n → f j = g j) → plc f a n = plc g a n
  | 0, _ => rfl
  | n + 1, h => by
    show (if plc f a n = -1 then (if f n = a then nI n else -1) else plc f a n) = (if plc g a n = -1 then (if g n = a then nI n else -1) else plc g a n)
    rw [plc_eq n (fun j hj => h j (by omega)), h n (by omega)]
/-- the search for a place, as both do it -/
theorem plc_f {f : Nat → Int32} {a k ln : Int32} (h0 : 0 ≤ k) (h1 : k < ln) (hl : ln ≤ 10) (e : f k.toNatClampNeg = a) (h : ∀ j : Nat, j < k.toNatClampNeg → f j ≠ a) : plc f a ln.toNatClampNeg = k := by
  have hk := cl_mono h0 h1
  have hl2 := cl_le (n := ln) (M := 10) (k := 10) rfl hl
  rw [plc_at (k := k.toNatClampNeg) (by omega) e h _ hk]
  exact (cl_nI k h0).symm
theorem plc_n {f : Nat → Int32} {a k ln : Int32} (h1 : ln ≤ k) (h : ∀ j : Nat, j < k.toNatClampNeg → f j ≠ a) : plc f a ln.toNatClampNeg = -1 := plc_no _ (fun j hj => h j (Nat.lt_of_lt_of_le hj (cl_mle h1)))
/-! a row that has every piece has each once -/
theorem cP_one {p q : Nat → Bool} {j : Nat} : ∀ k, (∀ i, i < k → q i = true → p i = true ∨ i = j) → cP q k ≤ cP p k + 1
  | 0, _ => Nat.zero_le _
  | k + 1, h => by
    show cP q k + (if q k = true then 1 else 0) ≤ cP p k + (if p k = true then 1 else 0) + 1
    by_cases hq : q k = true
    · rcases h k (by omega) hq with hp | hj
      · have ih := cP_one k (fun i hi => h i (by omega))
        rw [if_pos hq, if_pos hp]
        omega
      · have := cP_mono (p := q) (q := p) k (fun i hi hqi => (h i (by omega) hqi).resolve_right (by omega))
        rw [if_pos hq]
        omega
    · have ih := cP_one k (fun i hi => h i (by omega))
      rw [if_neg hq]
      omega
theorem cP_none {p : Nat → Bool} : ∀ k, (∀ i, i < k → ¬ p i = true) → cP p k = 0
  | 0, _ => rfl
  | k + 1, h => by
    show cP p k + (if p k = true then 1 else 0) = 0
    rw [cP_none k (fun i hi => h i (by omega)), if_neg (h k (by omega))]
theorem cP_all {p : Nat → Bool} : ∀ k, (∀ i, i < k → p i = true) → cP p k = k
  | 0, _ => rfl
  | k + 1, h => by
    show cP p k + (if p k = true then 1 else 0) = k + 1
    rw [cP_all k (fun i hi => h i (by omega)), if_pos (h k (by omega))]
def sv (f : Nat → Int32) (m : Nat) : Nat → Bool := fun p => (List.range m).any (fun k => f k == nI p)
theorem sv_iff {f : Nat → Int32} {m p : Nat} : sv f m p = true ↔ ∃ k, k < m ∧ f k = nI p := by
  unfold sv
  simp [List.any_eq_true]
theorem sv_s {f : Nat → Int32} {m p : Nat} (hp : p < 1000) (h : sv f (m + 1) p = true) : sv f m p = true ∨ p = (f m).toNatClampNeg := by
  obtain ⟨k, hk, e⟩ := sv_iff.mp h
  by_cases q : k = m
  · right
    rw [← q, e, nI_clamp (by omega)]
  · exact Or.inl (sv_iff.mpr ⟨k, by omega, e⟩)
theorem sv_le {f : Nat → Int32} {n : Nat} (hn : n ≤ 10) : ∀ m, cP (sv f m) n ≤ m
  | 0 => by
    rw [cP_none n (fun i _ h => by
      obtain ⟨k, hk, _⟩ := sv_iff.mp h
      omega)]
    exact Nat.le_refl _
  | m + 1 => by
    have ih := sv_le (f := f) hn m
    have := cP_one (p := sv f m) (q := sv f (m + 1)) (j := (f m).toNatClampNeg) n (fun i hi h => sv_s (by omega) h)
    omega
theorem inj_lt {f : Nat → Int32} {n : Int32} (hn : n ≤ 10) (hh : okHas f n) {i j : Nat} (hij : i < j) (hj : j < n.toNatClampNeg) : ¬ f i = f j := by
  intro e
  have hN := cl_le (n := n) (M := 10) (k := 10) rfl hn
  have h0 : 0 ≤ n := by
    rcases Int32.lt_or_le n 0 with h | h
    · have h2 := cl_mle (a := n) (b := 0) (by grind)
      have z : (0 : Int32).toNatClampNeg = 0 := rfl
      omega
    · exact h
  have rep : cP (sv f (j + 1)) n.toNatClampNeg ≤ cP (sv f j) n.toNatClampNeg := cP_mono _ (fun p hp h => by
    obtain ⟨k, hk, e2⟩ := sv_iff.mp h
    by_cases q : k = j
    · exact sv_iff.mpr ⟨i, hij, by rw [e, ← q]; exact e2⟩
    · exact sv_iff.mpr ⟨k, by omega, e2⟩)
  have up : ∀ m, cP (sv f (j + 1 + m)) n.toNatClampNeg ≤ j + m := by
    intro m
    induction m with
    | zero =>
      have := sv_le (f := f) hN j
      exact Nat.le_trans rep this
    | succ m ih =>
      have := cP_one (p := sv f (j + 1 + m)) (q := sv f (j + 1 + m + 1)) (j := (f (j + 1 + m)).toNatClampNeg) n.toNatClampNeg (fun i hi h => sv_s (by omega) h)
      show cP (sv f (j + 1 + m + 1)) n.toNatClampNeg ≤ j + m + 1
      omega
  have all : cP (sv f n.toNatClampNeg) n.toNatClampNeg = n.toNatClampNeg := cP_all _ (fun p hp => by
    have hp1 : nI p < n := by
      rw [cl_nI n h0]
      exact nI_lt hp (by omega)
    obtain ⟨k, hk, e2⟩ := hh (nI p) (nI_pos' (by omega)) hp1
    exact sv_iff.mpr ⟨k, hk, e2⟩)
  have h9 := up (n.toNatClampNeg - (j + 1))
  rw [show j + 1 + (n.toNatClampNeg - (j + 1)) = n.toNatClampNeg by omega] at h9
  omega
theorem inj_has {f : Nat → Int32} {n : Int32} (hn : n ≤ 10) (hh : okHas f n) {i j : Nat} (hi : i < n.toNatClampNeg) (hj : j < n.toNatClampNeg) (e : f i = f j) : i = j := by
  rcases Nat.lt_trichotomy i j with h | h | h
  · exact absurd e (inj_lt hn hh h hj)
  · exact h
  · exact absurd e.symm (inj_lt hn hh h hi)
/-! ===== how many ===== -/
def cnU (w : Nat → Int32) : Nat → Int32
  | 0 => 0
  | k + 1 => if w k = -1 then cnU w k + 1 else cnU w k
def cnP (w : Nat → Int32) : Nat → Int32
  | 0 => 0
  | k + 1 => if w k = -1 then cnP w k else cnP w k + 1
/-- those from a day on -/
def cnG (d : Int32) (w : Nat → Int32) : Nat → Int32
  | 0 => 0
  | k + 1 => if d ≤ w k then cnG d w k + 1 else cnG d w k
theorem cnP_s {w : Nat → Int32} {k v : Int32} (h0 : 0 ≤ k) (h1 : k < 1000) (e : v = k + 1) : cnP w v.toNatClampNeg = if w k.toNatClampNeg = -1 then cnP w k.toNatClampNeg else cnP w k.toNatClampNeg + 1 := by
  rw [e, cl_s h0 h1]
  rfl
theorem cnG_s {d : Int32} {w : Nat → Int32} {k v : Int32} (h0 : 0 ≤ k) (h1 : k < 1000) (e : v = k + 1) : cnG d w v.toNatClampNeg = if d ≤ w k.toNatClampNeg then cnG d w k.toNatClampNeg + 1 else cnG d w k.toNatClampNeg := by
  rw [e, cl_s h0 h1]
  rfl
theorem cn_sum {w : Nat → Int32} : ∀ k, cnU w k + cnP w k = nI k
  | 0 => rfl
  | k + 1 => by
    have ih := cn_sum (w := w) k
    have e1 := nI_1 k
    show (if w k = -1 then cnU w k + 1 else cnU w k) + (if w k = -1 then cnP w k else cnP w k + 1) = nI (k + 1)
    rw [← e1, ← ih]
    split <;> grind
theorem cnU_b {w : Nat → Int32} : ∀ k, k ≤ 10 → 0 ≤ cnU w k ∧ cnU w k ≤ nI k
  | 0, _ => by
    show (0 : Int32) ≤ 0 ∧ (0 : Int32) ≤ nI 0
    decide
  | k + 1, hk => by
    have ih := cnU_b (w := w) k (by omega)
    have b := nI_le (a := k) (b := 10) (by omega) (by omega)
    have t : nI 10 = 10 := rfl
    show 0 ≤ (if w k = -1 then cnU w k + 1 else cnU w k) ∧ (if w k = -1 then cnU w k + 1 else cnU w k) ≤ nI (k + 1)
    rw [← nI_1 k]
    rw [t] at b
    generalize nI k = C at *
    generalize cnU w k = U at *
    split <;> constructor <;> grind
theorem cnU_0 {w : Nat → Int32} : ∀ k, k ≤ 10 → cnU w k ≤ 0 → ∀ i, i < k → ¬ w i = -1
  | 0, _, _, i, hi => absurd hi (Nat.not_lt_zero _)
  | k + 1, hk, h, i, hi => by
    have h2 : (if w k = -1 then cnU w k + 1 else cnU w k) ≤ 0 := h
    have b := cnU_b (w := w) k (by omega)
    have c := nI_le (a := k) (b := 10) (by omega) (by omega)
    have t : nI 10 = 10 := rfl
    by_cases e : w k = -1
    · rw [if_pos e] at h2
      rw [t] at c
      generalize nI k = C at *
      generalize cnU w k = U at *
      exact absurd h2 (by grind)
    · rw [if_neg e] at h2
      by_cases q : i = k
      · rw [q]
        exact e
      · exact cnU_0 k (by omega) h2 i (by omega)
theorem cnU_lo {w : Nat → Int32} {p : Nat} {v : Int32} : ∀ k, k ≤ p → cnU (upd w p v) k = cnU w k
  | 0, _ => rfl
  | k + 1, hk => by
    show (if upd w p v k = -1 then cnU (upd w p v) k + 1 else cnU (upd w p v) k) = (if w k = -1 then cnU w k + 1 else cnU w k)
    rw [cnU_lo k (by omega), upd_ne (by omega)]
theorem cnU_upd {w : Nat → Int32} {p : Nat} {v : Int32} (hp : w p = -1) (hv : ¬ v = -1) : ∀ k, p < k → cnU (upd w p v) k = cnU w k - 1
  | 0, hk => absurd hk (Nat.not_lt_zero _)
  | k + 1, hk => by
    show (if upd w p v k = -1 then cnU (upd w p v) k + 1 else cnU (upd w p v) k) = (if w k = -1 then cnU w k + 1 else cnU w k) - 1
    by_cases e : p = k
    · subst e
      rw [upd_at, if_neg hv, if_pos hp, cnU_lo p (Nat.le_refl _)]
      grind
    · rw [cnU_upd hp hv k (by omega), upd_ne (fun q => e q.symm)]
      split <;> grind
theorem cnU_w {w : Nat → Int32} {n k : Int32} (hn : 0 ≤ n) (e : k = n - cnP w n.toNatClampNeg) : k = cnU w n.toNatClampNeg := by
  have h := cn_sum (w := w) n.toNatClampNeg
  rw [← cl_nI n hn] at h
  grind
/-! ===== a day's row: what is poured on that day stands ahead in it ===== -/
theorem unp_lt {n : Nat} {nw : Int32} {w : Nat → Int32} {i : Nat} (h0 : 0 ≤ nw) (hi : i < n) : unp n nw w i < nw := by
  unfold unp
  by_cases h : nw ≤ w i
  · rw [if_pos ⟨hi, h⟩]
    grind
  · rw [if_neg (fun q => h q.2)]
    grind
theorem nw_s {nw : Int32} {j : Nat} : nw + nI (j + 1) = nw + nI j + 1 := by
  rw [← nI_1 j]
  grind
theorem dyF_lt {mb : (Nat → Int32) → Int32 → Int32 → Bool} {rf w : Nat → Int32} {n : Nat} {nw : Int32} {i : Nat} (h0 : 0 ≤ nw) (h1 : nw ≤ 40) (hw : w i < nw) : ∀ j, j ≤ 40 - nw.toNatClampNeg → dyF mb rf n nw w j i < nw + nI j
  | 0, _ => by
    show w i < nw + nI 0
    rw [nI_0]
    grind
  | j + 1, hj => by
    have ih := dyF_lt (mb := mb) (rf := rf) (n := n) h0 h1 hw j (by omega)
    have b := nw_b (j := j) h0 h1 (by omega)
    show inF mb rf (nw + nI j) (dyF mb rf n nw w j) n i < nw + nI (j + 1)
    rw [nw_s]
    generalize nw + nI j = D at *
    rcases inF_nw (mb := mb) (rf := rf) (w := dyF mb rf n nw w j) (day := D) (i := i) n with e | e
    · rw [e]
      grind
    · rw [e]
      grind
theorem clI {a b : Int32} (ha : 0 ≤ a) (hb : 0 ≤ b) (e : a.toNatClampNeg = b.toNatClampNeg) : a = b := by
  rw [cl_nI a ha, cl_nI b hb, e]
theorem inF_rest {mb : (Nat → Int32) → Int32 → Int32 → Bool} {rf w : Nat → Int32} {n : Int32} {day : Int32} (hn : n ≤ 10) (hr : okRow rf n) (hh : okHas rf n) {i : Nat} (hi : i < n.toNatClampNeg) : ∀ k, k ≤ i → inF mb rf day w k (rf i).toNatClampNeg = w (rf i).toNatClampNeg
  | 0, _ => rfl
  | k + 1, hk => by
    have ih := inF_rest (mb := mb) (w := w) (day := day) hn hr hh hi k (by omega)
    have hne : ¬ (rf i).toNatClampNeg = (rf k).toNatClampNeg := fun q => by
      have := inj_has hn hh hi (show k < n.toNatClampNeg by omega) (clI (hr i hi).1 (hr k (by omega)).1 q)
      omega
    show (if inF mb rf day w k (rf k).toNatClampNeg = -1 ∧ mb (inF mb rf day w k) (rf k) day = true then upd (inF mb rf day w k) (rf k).toNatClampNeg day else inF mb rf day w k) (rf i).toNatClampNeg = w (rf i).toNatClampNeg
    split
    · rw [upd_ne hne]
      exact ih
    · exact ih
/-- the class's test: a place in the row for those of the same day -/
def ldX (M : Nat → Nat → Int32) (f : Nat → Int32) (n : Nat) (w : Nat → Int32) (p day : Int32) (i : Nat) : Bool := if bSt (w i) day = 0 then false else if M i p.toNatClampNeg = 0 ∧ w i = day then decide (plc f (nI i) n < plc f p n) else decide (w i + M i p.toNatClampNeg ≤ day)
def ahX (M : Nat → Nat → Int32) (f : Nat → Int32) (n : Nat) (w : Nat → Int32) (p day : Int32) (i : Nat) : Bool := !(M i p.toNatClampNeg == -1) && !(ldX M f n w p day i)
def mayX (M : Nat → Nat → Int32) (f : Nat → Int32) (σ : Int32 → Int32) (η : Int32 → Int32 → Int32) (uk uf uv us un ff : Nat → Int32) (gl be : Int32) (n : Nat) (w : Nat → Int32) (p day : Int32) : Bool :=
  !(anyB (ahX M f n w p day) n) && !(uk p.toNatClampNeg == 0 && anyB (stB η be uk uf w p.toNatClampNeg day) n) && !(decide (frF σ (ff (us p.toNatClampNeg).toNatClampNeg) us un w (us p.toNatClampNeg) day p n < un p.toNatClampNeg)) && !(decide (gl < voF uv w day p n + uv p.toNatClampNeg))
theorem ah_eq {M : Nat → Nat → Int32} {f : Nat → Int32} {n : Nat} {w : Nat → Int32} {p day : Int32} {i : Nat} (hM : M i p.toNatClampNeg = -1 ∨ (0 ≤ M i p.toNatClampNeg ∧ M i p.toNatClampNeg ≤ 9)) (hw : -1 ≤ w i ∧ w i ≤ 39) (hd : 0 ≤ day) (hd2 : day ≤ 39) (hpl : w i = day → plc f (nI i) n < plc f p n) : ahX M f n w p day i = ahM M w p.toNatClampNeg day i := by
  unfold ahX ahM ldX bSt
  generalize M i p.toNatClampNeg = m at *
  generalize w i = x at *
  by_cases h1 : m = -1
  · simp [h1]
  · have hm := hM.resolve_left h1
    by_cases h2 : x = -1
    · simp [h1, h2]
    · by_cases h3 : day < x
      · have h4 : day < x + m := by grind
        simp [h1, h2, h3, h4]
      · by_cases h4 : m = 0 ∧ x = day
        · have h5 := hpl h4.2
          have h6 : ¬ day < x + m := by grind
          simp [h1, h2, h3, h4, h5]
          grind
        · have h5 : (x + m ≤ day) ↔ ¬ (day < x + m) := by grind
          by_cases h6 : day < x + m
          · have h7 : ¬ x + m ≤ day := by grind
            simp [h1, h2, h3, h4, h6, h7]
          · have h7 : x + m ≤ day := by grind
            simp [h1, h2, h3, h4, h6, h7]
theorem mayX_eq {M : Nat → Nat → Int32} {f : Nat → Int32} {σ : Int32 → Int32} {η : Int32 → Int32 → Int32} {uk uf uv us un ff : Nat → Int32} {gl be : Int32} {n : Nat} {w : Nat → Int32} {p day : Int32} (h : ∀ i, i < n → ahX M f n w p day i = ahM M w p.toNatClampNeg day i) : mayX M f σ η uk uf uv us un ff gl be n w p day = mayB M σ η uk uf uv us un ff gl be n w p day := by
  unfold mayX mayB
  rw [anyB_eq n h]
theorem okWh_in {mb : (Nat → Int32) → Int32 → Int32 → Bool} {rf w : Nat → Int32} {day : Int32} (h : okWh w) (h0 : 0 ≤ day) (h1 : day ≤ 39) (k : Nat) : okWh (inF mb rf day w k) := by
  intro i
  rcases inF_nw (mb := mb) (rf := rf) (w := w) (day := day) (i := i) k with e | e
  · rw [e]
    exact h i
  · rw [e]
    exact ⟨by grind, h1⟩
theorem okWh_unp {w : Nat → Int32} {n : Nat} {nw : Int32} (h : okWh w) : okWh (unp n nw w) := by
  intro i
  unfold unp
  split
  · exact ⟨by decide, by decide⟩
  · exact h i
theorem okWh_dy {mb : (Nat → Int32) → Int32 → Int32 → Bool} {rf w : Nat → Int32} {n : Nat} {nw : Int32} (h : okWh w) (h0 : 0 ≤ nw) (h1 : nw ≤ 40) {j : Nat} (hj : j ≤ 40 - nw.toNatClampNeg) : okWh (dyF mb rf n nw w j) := by
  intro i
  rcases dyF_nw (mb := mb) (rf := rf) (w := w) (n := n) (i := i) h0 h1 j hj with e | e
  · rw [e]
    exact h i
  · exact ⟨by grind, e.2⟩
theorem okWh_pl {mb : (Nat → Int32) → Int32 → Int32 → Bool} {rf w : Nat → Int32} {n : Nat} {nw : Int32} (h : okWh w) (h0 : 0 ≤ nw) (h1 : nw ≤ 40) : okWh (plF mb rf n nw w) := okWh_dy (okWh_unp h) h0 h1 (Nat.le_refl _)
/-- the class's test is the pure one while a day is planned -/
theorem may_in {M : Nat → Nat → Int32} {σ : Int32 → Int32} {η : Int32 → Int32 → Int32} {uk uf uv us un ff : Nat → Int32} {gl be : Int32} {mb : (Nat → Int32) → Int32 → Int32 → Bool} {rf w pd pd2 : Nat → Int32} {n nw kd k : Int32} (hn0 : 0 ≤ n) (hn : n ≤ 10) (hM : okLd M) (hr : okRow rf n) (hh : okHas rf n) (hw : okWh w) (h0 : 0 ≤ nw) (h1 : nw ≤ kd) (h2 : kd ≤ 39) (hp : pd = dyF mb rf n.toNatClampNeg nw (unp n.toNatClampNeg nw w) (kd.toNatClampNeg - nw.toNatClampNeg)) (hp2 : pd2 = inF mb rf kd pd k.toNatClampNeg) (hk0 : 0 ≤ k) (hk : k < n) : mayX M rf σ η uk uf uv us un ff gl be n.toNatClampNeg pd2 (rf k.toNatClampNeg) kd = mayB M σ η uk uf uv us un ff gl be n.toNatClampNeg pd2 (rf k.toNatClampNeg) kd := by
  have hN := cl_le (n := n) (M := 10) (k := 10) rfl hn
  have hkn := cl_mono hk0 hk
  have hc1 := cl_mle h1
  have hc2 := cl_le (n := kd) (M := 39) (k := 39) rfl h2
  have en := cl_nI n hn0
  have ekd : nw + nI (kd.toNatClampNeg - nw.toNatClampNeg) = kd := by
    have h9 : nI nw.toNatClampNeg + nI (kd.toNatClampNeg - nw.toNatClampNeg) = nI (nw.toNatClampNeg + (kd.toNatClampNeg - nw.toNatClampNeg)) := by rw [nI_add]
    rw [← cl_nI nw h0, show nw.toNatClampNeg + (kd.toNatClampNeg - nw.toNatClampNeg) = kd.toNatClampNeg by omega, ← cl_nI kd (by grind)] at h9
    exact h9
  have hwd : okWh pd := by
    rw [hp]
    exact okWh_dy (okWh_unp hw) h0 (by grind) (by omega)
  have hw2 : okWh pd2 := by
    rw [hp2]
    exact okWh_in hwd (by grind) h2 _
  have hlt : ∀ i, i < n.toNatClampNeg → pd i < kd := fun i hi => by
    have := dyF_lt (mb := mb) (rf := rf) (n := n.toNatClampNeg) (i := i) h0 (by grind) (unp_lt (w := w) h0 hi) (kd.toNatClampNeg - nw.toNatClampNeg) (by omega)
    rw [ekd] at this
    rw [hp]
    exact this
  have hrk := hr _ hkn
  have hpk : plc rf (rf k.toNatClampNeg) n.toNatClampNeg = nI k.toNatClampNeg := plc_at (by omega) rfl (fun j hj q => by
    have := inj_has hn hh (show j < n.toNatClampNeg by omega) hkn q
    omega) _ hkn
  refine mayX_eq (fun i hi => ah_eq ?_ (hw2 i) (by grind) h2 (fun e => ?_))
  · have hb := cl_mono hrk.1 hrk.2
    exact hM i _ (by omega) (by omega)
  · have hin : nI i < n := by
      rw [en]
      exact nI_lt hi (by omega)
    obtain ⟨j, hj, ej⟩ := hh (nI i) (nI_pos' (by omega)) hin
    have hjk : j < k.toNatClampNeg := by
      rcases Nat.lt_or_ge j k.toNatClampNeg with q | q
      · exact q
      · have r := inF_rest (mb := mb) (w := pd) (day := kd) hn hr hh hj k.toNatClampNeg q
        rw [← hp2, ej, nI_clamp (by omega), e] at r
        have := hlt i hi
        rw [← r] at this
        exact absurd this (by grind)
    have hpj : plc rf (nI i) n.toNatClampNeg = nI j := plc_at (by omega) ej (fun t ht q => by
      have := inj_has hn hh (show t < n.toNatClampNeg by omega) hj (q.trans ej.symm)
      omega) _ hj
    rw [hpj, hpk]
    exact nI_lt hjk (by omega)
