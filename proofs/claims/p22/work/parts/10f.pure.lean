/-! ===== planning: pure words ===== -/
def anyB (f : Nat → Bool) : Nat → Bool
  | 0 => false
  | k + 1 => anyB f k || f k
theorem anyB_s {f : Nat → Bool} {k v : Int32} (h0 : 0 ≤ k) (h1 : k < 1000) (e : v = k + 1) : anyB f v.toNatClampNeg = (anyB f k.toNatClampNeg || f k.toNatClampNeg) := by
  rw [e, cl_s h0 h1]
  rfl
theorem anyB_t {f : Nat → Bool} {i : Nat} (h : f i = true) : ∀ n, i < n → anyB f n = true
  | 0, hi => absurd hi (Nat.not_lt_zero _)
  | n + 1, hi => by
    show (anyB f n || f n) = true
    by_cases e : i = n
    · rw [← e, h, Bool.or_true]
    · rw [anyB_t h n (by omega), Bool.true_or]
theorem anyB_eq {f g : Nat → Bool} : ∀ n, (∀ i, i < n → f i = g i) → anyB f n = anyB g n
  | 0, _ => rfl
  | n + 1, h => by
    show (anyB f n || f n) = (anyB g n || g n)
    rw [anyB_eq n (fun i hi => h i (by omega)), h n (by omega)]
/-- i must be ahead of p and isn't yet -/
def ahM (M : Nat → Nat → Int32) (w : Nat → Int32) (p : Nat) (day : Int32) (i : Nat) : Bool := !(M i p == -1) && (w i == -1 || decide (day < w i + M i p))
def carB (uk uf : Nat → Int32) (q s : Nat) : Bool := if uk q = 1 ∨ uk q = 2 then uf q == uf s else (uk q == 0 && uf q == uf s - 1)
/-- i carries s and isn't hard enough -/
def stB (η : Int32 → Int32 → Int32) (be : Int32) (uk uf w : Nat → Int32) (s : Nat) (day : Int32) (i : Nat) : Bool := carB uk uf i s && decide (η (w i) day < be)
def hlB (σ : Int32 → Int32) (w : Nat → Int32) (day : Int32) (i : Nat) : Bool := !(bSt (w i) day == 0) && decide (day < σ (w i))
def frF (σ : Int32 → Int32) (f0 : Int32) (us un w : Nat → Int32) (s day bu : Int32) : Nat → Int32
  | 0 => f0
  | k + 1 => if ¬ nI k = bu ∧ us k = s ∧ hlB σ w day k = true then frF σ f0 us un w s day bu k - un k else frF σ f0 us un w s day bu k
theorem frF_s {σ : Int32 → Int32} {f0 : Int32} {us un w : Nat → Int32} {s day bu k v : Int32} (h0 : 0 ≤ k) (h1 : k < 1000) (e : v = k + 1) : frF σ f0 us un w s day bu v.toNatClampNeg = if ¬ k = bu ∧ us k.toNatClampNeg = s ∧ hlB σ w day k.toNatClampNeg = true then frF σ f0 us un w s day bu k.toNatClampNeg - un k.toNatClampNeg else frF σ f0 us un w s day bu k.toNatClampNeg := by
  have hk := cl_nI k h0
  rw [e, cl_s h0 h1]
  show (if ¬ nI k.toNatClampNeg = bu ∧ us k.toNatClampNeg = s ∧ hlB σ w day k.toNatClampNeg = true then frF σ f0 us un w s day bu k.toNatClampNeg - un k.toNatClampNeg else frF σ f0 us un w s day bu k.toNatClampNeg) = _
  rw [← hk]
def voF (uv w : Nat → Int32) (day bu : Int32) : Nat → Int32
  | 0 => 0
  | k + 1 => if ¬ nI k = bu ∧ w k = day then voF uv w day bu k + uv k else voF uv w day bu k
theorem voF_s {uv w : Nat → Int32} {day bu k v : Int32} (h0 : 0 ≤ k) (h1 : k < 1000) (e : v = k + 1) : voF uv w day bu v.toNatClampNeg = if ¬ k = bu ∧ w k.toNatClampNeg = day then voF uv w day bu k.toNatClampNeg + uv k.toNatClampNeg else voF uv w day bu k.toNatClampNeg := by
  have hk := cl_nI k h0
  rw [e, cl_s h0 h1]
  show (if ¬ nI k.toNatClampNeg = bu ∧ w k.toNatClampNeg = day then voF uv w day bu k.toNatClampNeg + uv k.toNatClampNeg else voF uv w day bu k.toNatClampNeg) = _
  rw [← hk]
/-- nothing hinders p on the day -/
def mayB (M : Nat → Nat → Int32) (σ : Int32 → Int32) (η : Int32 → Int32 → Int32) (uk uf uv us un ff : Nat → Int32) (gl be : Int32) (n : Nat) (w : Nat → Int32) (p day : Int32) : Bool :=
  !(anyB (ahM M w p.toNatClampNeg day) n) && !(uk p.toNatClampNeg == 0 && anyB (stB η be uk uf w p.toNatClampNeg day) n) && !(decide (frF σ (ff (us p.toNatClampNeg).toNatClampNeg) us un w (us p.toNatClampNeg) day p n < un p.toNatClampNeg)) && !(decide (gl < voF uv w day p n + uv p.toNatClampNeg))
/-- one day: the pieces in their row -/
def inF (mb : (Nat → Int32) → Int32 → Int32 → Bool) (rf : Nat → Int32) (day : Int32) (w : Nat → Int32) : Nat → Nat → Int32
  | 0 => w
  | k + 1 => if inF mb rf day w k (rf k).toNatClampNeg = -1 ∧ mb (inF mb rf day w k) (rf k) day = true then upd (inF mb rf day w k) (rf k).toNatClampNeg day else inF mb rf day w k
theorem inF_s {mb : (Nat → Int32) → Int32 → Int32 → Bool} {rf w : Nat → Int32} {day k v : Int32} (h0 : 0 ≤ k) (h1 : k < 1000) (e : v = k + 1) : inF mb rf day w v.toNatClampNeg = if inF mb rf day w k.toNatClampNeg (rf k.toNatClampNeg).toNatClampNeg = -1 ∧ mb (inF mb rf day w k.toNatClampNeg) (rf k.toNatClampNeg) day = true then upd (inF mb rf day w k.toNatClampNeg) (rf k.toNatClampNeg).toNatClampNeg day else inF mb rf day w k.toNatClampNeg := by
  rw [e, cl_s h0 h1]
  rfl
/-- the days from nw on -/
def dyF (mb : (Nat → Int32) → Int32 → Int32 → Bool) (rf : Nat → Int32) (n : Nat) (nw : Int32) (w : Nat → Int32) : Nat → Nat → Int32
  | 0 => w
  | j + 1 => inF mb rf (nw + nI j) (dyF mb rf n nw w j) n
theorem dyF_s {mb : (Nat → Int32) → Int32 → Int32 → Bool} {rf w : Nat → Int32} {n : Nat} {nw k v : Int32} (h0 : 0 ≤ nw) (h1 : nw ≤ k) (h2 : k < 1000) (e : v = k + 1) : dyF mb rf n nw w (v.toNatClampNeg - nw.toNatClampNeg) = inF mb rf k (dyF mb rf n nw w (k.toNatClampNeg - nw.toNatClampNeg)) n := by
  have hm := cl_mle h1
  have ek := cl_nI k (by grind)
  have en := cl_nI nw h0
  have e2 : nw + nI (k.toNatClampNeg - nw.toNatClampNeg) = k := by
    have h9 : nI nw.toNatClampNeg + nI (k.toNatClampNeg - nw.toNatClampNeg) = nI (nw.toNatClampNeg + (k.toNatClampNeg - nw.toNatClampNeg)) := by rw [nI_add]
    rw [← en, show nw.toNatClampNeg + (k.toNatClampNeg - nw.toNatClampNeg) = k.toNatClampNeg by omega, ← ek] at h9
    exact h9
  rw [e, cl_s (by grind) h2, show k.toNatClampNeg + 1 - nw.toNatClampNeg = (k.toNatClampNeg - nw.toNatClampNeg) + 1 by omega]
  show inF mb rf (nw + nI (k.toNatClampNeg - nw.toNatClampNeg)) (dyF mb rf n nw w (k.toNatClampNeg - nw.toNatClampNeg)) n = _
  rw [e2]
/-- what is poured from nw on is no longer poured -/
def unp (n : Nat) (nw : Int32) (w : Nat → Int32) : Nat → Int32 := fun j => if j < n ∧ nw ≤ w j then -1 else w j
theorem unp_s {nw : Int32} {w pd : Nat → Int32} {k v : Int32} (h0 : 0 ≤ k) (h1 : k < 1000) (e : v = k + 1) (h : pd = unp k.toNatClampNeg nw w) : (nw ≤ pd k.toNatClampNeg → upd pd k.toNatClampNeg (-1) = unp v.toNatClampNeg nw w) ∧ (¬ nw ≤ pd k.toNatClampNeg → pd = unp v.toNatClampNeg nw w) ∧ pd k.toNatClampNeg = w k.toNatClampNeg := by
  have hk : pd k.toNatClampNeg = w k.toNatClampNeg := by
    rw [h]
    unfold unp
    rw [if_neg (by omega)]
  rw [e, cl_s h0 h1]
  refine ⟨fun hc => ?_, fun hc => ?_, hk⟩
  · funext j
    rw [hk] at hc
    by_cases hj : j = k.toNatClampNeg
    · rw [hj, upd_at]
      unfold unp
      rw [if_pos ⟨by omega, hc⟩]
    · rw [upd_ne hj, h]
      unfold unp
      by_cases h2 : j < k.toNatClampNeg ∧ nw ≤ w j
      · rw [if_pos h2, if_pos ⟨by omega, h2.2⟩]
      · rw [if_neg h2, if_neg (fun q => h2 ⟨by omega, q.2⟩)]
  · funext j
    rw [hk] at hc
    rw [h]
    unfold unp
    by_cases h2 : j < k.toNatClampNeg ∧ nw ≤ w j
    · rw [if_pos h2, if_pos ⟨by omega, h2.2⟩]
    · rw [if_neg h2, if_neg (fun q => ?_)]
      by_cases hj : j = k.toNatClampNeg
      · rw [hj] at q
        exact hc q.2
      · exact h2 ⟨by omega, q.2⟩
theorem unp_0 {nw : Int32} {w : Nat → Int32} : unp 0 nw w = w := by
  funext j
  unfold unp
  rw [if_neg (by omega)]
def plF (mb : (Nat → Int32) → Int32 → Int32 → Bool) (rf : Nat → Int32) (n : Nat) (nw : Int32) (w : Nat → Int32) : Nat → Int32 := dyF mb rf n nw (unp n nw w) (40 - nw.toNatClampNeg)
def enF (σ : Int32 → Int32) (w : Nat → Int32) (n : Nat) : Int32 := mxF (fun i => σ (w i)) n
/-- all are poured: nothing changes -/
theorem inF_all {mb : (Nat → Int32) → Int32 → Int32 → Bool} {rf w : Nat → Int32} {n : Nat} {day : Int32} (hr : ∀ i, i < n → (rf i).toNatClampNeg < n) (h : ∀ i, i < n → ¬ w i = -1) : ∀ k, k ≤ n → inF mb rf day w k = w
  | 0, _ => rfl
  | k + 1, hk => by
    have ih := inF_all (mb := mb) (day := day) hr h k (by omega)
    show (if inF mb rf day w k (rf k).toNatClampNeg = -1 ∧ mb (inF mb rf day w k) (rf k) day = true then upd (inF mb rf day w k) (rf k).toNatClampNeg day else inF mb rf day w k) = w
    rw [ih, if_neg (fun q => h _ (hr k (by omega)) q.1)]
theorem dyF_all {mb : (Nat → Int32) → Int32 → Int32 → Bool} {rf w : Nat → Int32} {n : Nat} {nw : Int32} (hr : ∀ i, i < n → (rf i).toNatClampNeg < n) {j : Nat} (h : ∀ i, i < n → ¬ dyF mb rf n nw w j i = -1) : ∀ m, dyF mb rf n nw w (j + m) = dyF mb rf n nw w j
  | 0 => rfl
  | m + 1 => by
    have ih := dyF_all hr h m
    show inF mb rf (nw + nI (j + m)) (dyF mb rf n nw w (j + m)) n = _
    rw [ih]
    exact inF_all hr h n (Nat.le_refl _)
/-- a value that isn't -1 stays -/
theorem inF_kp {mb : (Nat → Int32) → Int32 → Int32 → Bool} {rf w : Nat → Int32} {day : Int32} {i : Nat} (h : ¬ w i = -1) : ∀ k, inF mb rf day w k i = w i
  | 0 => rfl
  | k + 1 => by
    have ih := inF_kp (mb := mb) (rf := rf) (day := day) h k
    show (if inF mb rf day w k (rf k).toNatClampNeg = -1 ∧ mb (inF mb rf day w k) (rf k) day = true then upd (inF mb rf day w k) (rf k).toNatClampNeg day else inF mb rf day w k) i = w i
    split
    · rename_i hc
      by_cases e : i = (rf k).toNatClampNeg
      · rw [← e, ih] at hc
        exact absurd hc.1 h
      · rw [upd_ne e]
        exact ih
    · exact ih
/-- what is new has that day -/
theorem inF_nw {mb : (Nat → Int32) → Int32 → Int32 → Bool} {rf w : Nat → Int32} {day : Int32} {i : Nat} : ∀ k, inF mb rf day w k i = w i ∨ inF mb rf day w k i = day
  | 0 => Or.inl rfl
  | k + 1 => by
    have ih := inF_nw (mb := mb) (rf := rf) (w := w) (day := day) (i := i) k
    show (if inF mb rf day w k (rf k).toNatClampNeg = -1 ∧ mb (inF mb rf day w k) (rf k) day = true then upd (inF mb rf day w k) (rf k).toNatClampNeg day else inF mb rf day w k) i = w i ∨ (if inF mb rf day w k (rf k).toNatClampNeg = -1 ∧ mb (inF mb rf day w k) (rf k) day = true then upd (inF mb rf day w k) (rf k).toNatClampNeg day else inF mb rf day w k) i = day
    split
    · by_cases e : i = (rf k).toNatClampNeg
      · rw [e, upd_at]
        exact Or.inr rfl
      · rw [upd_ne e]
        exact ih
    · exact ih
theorem inF_ge {mb : (Nat → Int32) → Int32 → Int32 → Bool} {rf w : Nat → Int32} {n : Nat} {day : Int32} {i : Nat} (hr : ∀ i, i < n → (rf i).toNatClampNeg < n) (hi : n ≤ i) : ∀ k, k ≤ n → inF mb rf day w k i = w i
  | 0, _ => rfl
  | k + 1, hk => by
    have ih := inF_ge (mb := mb) (day := day) (w := w) hr hi k (by omega)
    have hk2 := hr k (by omega)
    show (if inF mb rf day w k (rf k).toNatClampNeg = -1 ∧ mb (inF mb rf day w k) (rf k) day = true then upd (inF mb rf day w k) (rf k).toNatClampNeg day else inF mb rf day w k) i = w i
    split
    · rw [upd_ne (by omega)]
      exact ih
    · exact ih
theorem dyF_kp {mb : (Nat → Int32) → Int32 → Int32 → Bool} {rf w : Nat → Int32} {n : Nat} {nw : Int32} {i : Nat} (h : ¬ w i = -1) : ∀ j, dyF mb rf n nw w j i = w i
  | 0 => rfl
  | j + 1 => by
    have ih := dyF_kp (mb := mb) (rf := rf) (n := n) (nw := nw) h j
    show inF mb rf (nw + nI j) (dyF mb rf n nw w j) n i = w i
    rw [inF_kp (by rw [ih]; exact h), ih]
theorem nw_b {nw : Int32} {j : Nat} (h0 : 0 ≤ nw) (h1 : nw ≤ 40) (hj : j < 40 - nw.toNatClampNeg) : nw ≤ nw + nI j ∧ nw + nI j ≤ 39 := by
  have en := cl_nI nw h0
  have hc := cl_le (n := nw) (M := 40) (k := 40) rfl h1
  have e2 : nw + nI j = nI (nw.toNatClampNeg + j) := by
    conv => lhs; rw [en, nI_add]
  rw [e2]
  refine ⟨?_, nI_le (a := nw.toNatClampNeg + j) (b := 39) (by omega) (by omega)⟩
  conv => lhs; rw [en]
  exact nI_le (by omega) (by omega)
theorem dyF_nw {mb : (Nat → Int32) → Int32 → Int32 → Bool} {rf w : Nat → Int32} {n : Nat} {nw : Int32} {i : Nat} (h0 : 0 ≤ nw) (h1 : nw ≤ 40) : ∀ j, j ≤ 40 - nw.toNatClampNeg → dyF mb rf n nw w j i = w i ∨ (nw ≤ dyF mb rf n nw w j i ∧ dyF mb rf n nw w j i ≤ 39)
  | 0, _ => Or.inl rfl
  | j + 1, hj => by
    have ih := dyF_nw (mb := mb) (rf := rf) (w := w) (n := n) (i := i) h0 h1 j (by omega)
    have b := nw_b (j := j) h0 h1 (by omega)
    show inF mb rf (nw + nI j) (dyF mb rf n nw w j) n i = w i ∨ (nw ≤ inF mb rf (nw + nI j) (dyF mb rf n nw w j) n i ∧ inF mb rf (nw + nI j) (dyF mb rf n nw w j) n i ≤ 39)
    rcases inF_nw (mb := mb) (rf := rf) (w := dyF mb rf n nw w j) (day := nw + nI j) (i := i) n with e | e
    · rw [e]
      exact ih
    · rw [e]
      exact Or.inr b
theorem dyF_ge {mb : (Nat → Int32) → Int32 → Int32 → Bool} {rf w : Nat → Int32} {n : Nat} {nw : Int32} {i : Nat} (hr : ∀ i, i < n → (rf i).toNatClampNeg < n) (hi : n ≤ i) : ∀ j, dyF mb rf n nw w j i = w i
  | 0 => rfl
  | j + 1 => by
    have ih := dyF_ge (mb := mb) (rf := rf) (n := n) (nw := nw) (w := w) hr hi j
    show inF mb rf (nw + nI j) (dyF mb rf n nw w j) n i = w i
    rw [inF_ge hr hi n (Nat.le_refl _), ih]
/-- a plan anew starts where the last one did -/
theorem unp_pl {mb : (Nat → Int32) → Int32 → Int32 → Bool} {rf w : Nat → Int32} {n : Nat} {nw : Int32} (hr : ∀ i, i < n → (rf i).toNatClampNeg < n) (h0 : 0 ≤ nw) (h1 : nw ≤ 40) : unp n nw (plF mb rf n nw w) = unp n nw w := by
  funext i
  by_cases hi : i < n
  · by_cases hu : unp n nw w i = -1
    · rw [hu]
      rcases dyF_nw (mb := mb) (rf := rf) (w := unp n nw w) (n := n) (i := i) h0 h1 (40 - nw.toNatClampNeg) (Nat.le_refl _) with e | e
      · have e2 : plF mb rf n nw w i = -1 := by
          show dyF mb rf n nw (unp n nw w) (40 - nw.toNatClampNeg) i = -1
          rw [e, hu]
        show (if i < n ∧ nw ≤ plF mb rf n nw w i then -1 else plF mb rf n nw w i) = -1
        rw [e2]
        split <;> rfl
      · show (if i < n ∧ nw ≤ plF mb rf n nw w i then -1 else plF mb rf n nw w i) = -1
        rw [if_pos ⟨hi, e.1⟩]
    · have e : plF mb rf n nw w i = unp n nw w i := dyF_kp hu _
      have hlt : ¬ nw ≤ unp n nw w i := by
        intro q
        apply hu
        unfold unp at q ⊢
        by_cases hc : i < n ∧ nw ≤ w i
        · rw [if_pos hc]
        · rw [if_neg hc] at q
          exact absurd ⟨hi, q⟩ hc
      show (if i < n ∧ nw ≤ plF mb rf n nw w i then -1 else plF mb rf n nw w i) = unp n nw w i
      rw [e, if_neg (fun q => hlt q.2)]
  · have e : plF mb rf n nw w i = unp n nw w i := dyF_ge hr (by omega) _
    show (if i < n ∧ nw ≤ plF mb rf n nw w i then -1 else plF mb rf n nw w i) = unp n nw w i
    rw [e, if_neg (fun q => hi q.1)]
theorem plF_unp {mb : (Nat → Int32) → Int32 → Int32 → Bool} {rf w v : Nat → Int32} {n : Nat} {nw : Int32} (h : unp n nw w = unp n nw v) : plF mb rf n nw w = plF mb rf n nw v := by
  unfold plF
  rw [h]
/-! the same by two -/
theorem frF_eq {σ τ : Int32 → Int32} {f0 g0 : Int32} {us un w vs vn v : Nat → Int32} {s day bu : Int32} (hf : f0 = g0) : ∀ n, (∀ i, i < n → us i = vs i ∧ un i = vn i ∧ w i = v i ∧ σ (w i) = τ (v i)) → frF σ f0 us un w s day bu n = frF τ g0 vs vn v s day bu n
  | 0, _ => hf
  | n + 1, h => by
    have ih := frF_eq (s := s) (day := day) (bu := bu) hf n (fun i hi => h i (by omega))
    obtain ⟨a, b, c, d⟩ := h n (by omega)
    have hh : hlB σ w day n = hlB τ v day n := by
      unfold hlB
      rw [d, c]
    show (if ¬ nI n = bu ∧ us n = s ∧ hlB σ w day n = true then frF σ f0 us un w s day bu n - un n else frF σ f0 us un w s day bu n) = (if ¬ nI n = bu ∧ vs n = s ∧ hlB τ v day n = true then frF τ g0 vs vn v s day bu n - vn n else frF τ g0 vs vn v s day bu n)
    rw [ih, a, b, hh]
theorem voF_eq {uv w vv v : Nat → Int32} {day bu : Int32} : ∀ n, (∀ i, i < n → uv i = vv i ∧ w i = v i) → voF uv w day bu n = voF vv v day bu n
  | 0, _ => rfl
  | n + 1, h => by
    have ih := voF_eq (day := day) (bu := bu) n (fun i hi => h i (by omega))
    obtain ⟨a, b⟩ := h n (by omega)
    show (if ¬ nI n = bu ∧ w n = day then voF uv w day bu n + uv n else voF uv w day bu n) = (if ¬ nI n = bu ∧ v n = day then voF vv v day bu n + vv n else voF vv v day bu n)
    rw [ih, a, b]
theorem mayB_eq {M M2 : Nat → Nat → Int32} {σ τ : Int32 → Int32} {η θ : Int32 → Int32 → Int32} {uk uf uv us un ff vk vf vv vs vn gf w v : Nat → Int32} {gl be p day : Int32} {n : Nat} (hM : ∀ a b, a < n → b < n → M a b = M2 a b) (hA : ∀ i, i < n → uk i = vk i ∧ uf i = vf i ∧ uv i = vv i ∧ us i = vs i ∧ un i = vn i ∧ w i = v i) (hσ : ∀ i, i < n → σ (w i) = τ (v i)) (hη : ∀ i, i < n → η (w i) day = θ (v i) day) (hf : ∀ i, i < 3 → ff i = gf i) (hs : okSz us) (hp : p.toNatClampNeg < n) : mayB M σ η uk uf uv us un ff gl be n w p day = mayB M2 τ θ vk vf vv vs vn gf gl be n v p day := by
  obtain ⟨a1, a2, a3, a4, a5, a6⟩ := hA _ hp
  have e1 : anyB (ahM M w p.toNatClampNeg day) n = anyB (ahM M2 v p.toNatClampNeg day) n := anyB_eq n (fun i hi => by
    unfold ahM
    rw [hM i _ hi hp, (hA i hi).2.2.2.2.2])
  have e2 : anyB (stB η be uk uf w p.toNatClampNeg day) n = anyB (stB θ be vk vf v p.toNatClampNeg day) n := anyB_eq n (fun i hi => by
    unfold stB carB
    rw [hη i hi, (hA i hi).1, (hA i hi).2.1, a2])
  have h3 := hs p.toNatClampNeg
  have h4 : (us p.toNatClampNeg).toNatClampNeg < 3 := by
    have := cl_le (n := us p.toNatClampNeg) (M := 2) (k := 2) rfl h3.2
    omega
  have e3 : ∀ s, frF σ (ff (us p.toNatClampNeg).toNatClampNeg) us un w s day p n = frF τ (gf (us p.toNatClampNeg).toNatClampNeg) vs vn v s day p n := fun s => frF_eq (hf _ h4) n (fun i hi => ⟨(hA i hi).2.2.2.1, (hA i hi).2.2.2.2.1, (hA i hi).2.2.2.2.2, hσ i hi⟩)
  have e4 : voF uv w day p n = voF vv v day p n := voF_eq n (fun i hi => ⟨(hA i hi).2.2.1, (hA i hi).2.2.2.2.2⟩)
  unfold mayB
  rw [e1, e2, e3, e4, a1, a3, a4, a5]
/-- two tests that say the same -/
def mbE (n : Nat) (mb mc : (Nat → Int32) → Int32 → Int32 → Bool) : Prop := ∀ w v : Nat → Int32, (∀ i, i < n → w i = v i) → (∀ i, i < n → -1 ≤ w i ∧ w i ≤ 39) → ∀ p day : Int32, p.toNatClampNeg < n → 0 ≤ day → day ≤ 39 → mb w p day = mc v p day
theorem inF_eq {mb mc : (Nat → Int32) → Int32 → Int32 → Bool} {rf rg w v : Nat → Int32} {n : Nat} {day : Int32} (hm : mbE n mb mc) (hr : ∀ i, i < n → (rf i).toNatClampNeg < n) (he : ∀ i, i < n → rf i = rg i) (hw : ∀ i, i < n → w i = v i) (hb : ∀ i, i < n → -1 ≤ w i ∧ w i ≤ 39) (h0 : 0 ≤ day) (h1 : day ≤ 39) : ∀ k, k ≤ n → (∀ i, i < n → inF mb rf day w k i = inF mc rg day v k i) ∧ ∀ i, i < n → -1 ≤ inF mb rf day w k i ∧ inF mb rf day w k i ≤ 39
  | 0, _ => ⟨hw, hb⟩
  | k + 1, hk => by
    obtain ⟨i1, i2⟩ := inF_eq hm hr he hw hb h0 h1 k (by omega)
    have hrk := hr k (by omega)
    have ek := he k (by omega)
    have em := hm _ _ i1 i2 (rf k) day hrk h0 h1
    have e1 := i1 _ hrk
    have key : ∀ i, i < n → (if inF mb rf day w k (rf k).toNatClampNeg = -1 ∧ mb (inF mb rf day w k) (rf k) day = true then upd (inF mb rf day w k) (rf k).toNatClampNeg day else inF mb rf day w k) i = (if inF mc rg day v k (rg k).toNatClampNeg = -1 ∧ mc (inF mc rg day v k) (rg k) day = true then upd (inF mc rg day v k) (rg k).toNatClampNeg day else inF mc rg day v k) i := by
      intro i hi
      rw [← ek, ← em, ← e1]
      split
      · by_cases q : i = (rf k).toNatClampNeg
        · rw [q, upd_at, upd_at]
        · rw [upd_ne q, upd_ne q]
          exact i1 i hi
      · exact i1 i hi
    refine ⟨key, fun i hi => ?_⟩
    show -1 ≤ (if inF mb rf day w k (rf k).toNatClampNeg = -1 ∧ mb (inF mb rf day w k) (rf k) day = true then upd (inF mb rf day w k) (rf k).toNatClampNeg day else inF mb rf day w k) i ∧ (if inF mb rf day w k (rf k).toNatClampNeg = -1 ∧ mb (inF mb rf day w k) (rf k) day = true then upd (inF mb rf day w k) (rf k).toNatClampNeg day else inF mb rf day w k) i ≤ 39
    split
    · by_cases q : i = (rf k).toNatClampNeg
      · rw [q, upd_at]
        exact ⟨by grind, h1⟩
      · rw [upd_ne q]
        exact i2 i hi
    · exact i2 i hi
theorem dyF_eq {mb mc : (Nat → Int32) → Int32 → Int32 → Bool} {rf rg w v : Nat → Int32} {n : Nat} {nw : Int32} (hm : mbE n mb mc) (hr : ∀ i, i < n → (rf i).toNatClampNeg < n) (he : ∀ i, i < n → rf i = rg i) (hw : ∀ i, i < n → w i = v i) (hb : ∀ i, i < n → -1 ≤ w i ∧ w i ≤ 39) (h0 : 0 ≤ nw) (h1 : nw ≤ 40) : ∀ j, j ≤ 40 - nw.toNatClampNeg → (∀ i, i < n → dyF mb rf n nw w j i = dyF mc rg n nw v j i) ∧ ∀ i, i < n → -1 ≤ dyF mb rf n nw w j i ∧ dyF mb rf n nw w j i ≤ 39
  | 0, _ => ⟨hw, hb⟩
  | j + 1, hj => by
    obtain ⟨i1, i2⟩ := dyF_eq hm hr he hw hb h0 h1 j (by omega)
    have b := nw_b (j := j) h0 h1 (by omega)
    exact inF_eq hm hr he i1 i2 (by grind) b.2 n (Nat.le_refl _)
theorem plF_eq {mb mc : (Nat → Int32) → Int32 → Int32 → Bool} {rf rg w v : Nat → Int32} {n : Nat} {nw : Int32} (hm : mbE n mb mc) (hr : ∀ i, i < n → (rf i).toNatClampNeg < n) (he : ∀ i, i < n → rf i = rg i) (hw : ∀ i, i < n → w i = v i) (hb : ∀ i, i < n → -1 ≤ w i ∧ w i ≤ 39) (h0 : 0 ≤ nw) (h1 : nw ≤ 40) : (∀ i, i < n → plF mb rf n nw w i = plF mc rg n nw v i) ∧ ∀ i, i < n → -1 ≤ plF mb rf n nw w i ∧ plF mb rf n nw w i ≤ 39 := by
  refine dyF_eq hm hr he (fun i hi => ?_) (fun i hi => ?_) h0 h1 _ (Nat.le_refl _)
  · unfold unp
    rw [hw i hi]
  · unfold unp
    split
    · exact ⟨by decide, by decide⟩
    · exact hb i hi
theorem enF_eq {σ τ : Int32 → Int32} {w v : Nat → Int32} {n : Nat} (h : ∀ i, i < n → σ (w i) = τ (v i)) : enF σ w n = enF τ v n := mxF_eq n h
theorem enF_s {σ : Int32 → Int32} {w : Nat → Int32} {k v : Int32} (h0 : 0 ≤ k) (h1 : k < 1000) (e : v = k + 1) : enF σ w v.toNatClampNeg = mx (enF σ w k.toNatClampNeg) (σ (w k.toNatClampNeg)) := mxF_s h0 h1 e
/-- the reference's words for strip and hardness -/
def sgM (fw : Nat → Int32) (bw : Int32) (fd fh : Nat → Int32) (pts sp d : Int32) : Int32 := if d = -1 then 40 else stF fw bw fd fh pts sp d.toNatClampNeg
def etM (fw : Nat → Int32) (bw : Int32) (fd fh : Nat → Int32) (pts d day : Int32) : Int32 := if bSt d day = 0 then -1 else hrd fw bw fd fh pts d day
theorem sg_eq {fw : Nat → Int32} {bw : Int32} {fd fh fs : Nat → Int32} {pts sp d : Int32} (h : okFs fw bw fd fh pts sp fs) (h0 : -1 ≤ d) (h1 : d ≤ 39) : sdf fs d = sgM fw bw fd fh pts sp d := by
  unfold sdf sgM
  by_cases e : d = -1
  · rw [if_neg (by grind), if_pos e]
  · have hl := cl_mono (k := d) (n := 40) (by grind) (by grind)
    rw [if_pos ⟨by grind, by grind⟩, if_neg e, h _ hl]
theorem et_eq {fw : Nat → Int32} {bw : Int32} {fd fh fg : Nat → Int32} {pts d day : Int32} (hw : okWm fw) (hb0 : 0 ≤ bw) (hb1 : bw ≤ 20) (h : okFg fw bw fg) (h0 : -1 ≤ d) (h3 : day ≤ 39) : hon fd fh fg pts d day = etM fw bw fd fh pts d day := by
  unfold etM bSt
  by_cases e : d = -1 ∨ day < d
  · rw [if_pos e, if_pos rfl]
    unfold hon
    rw [if_pos (by grind)]
  · rw [if_neg e, if_neg (by decide), hon_hd h (by grind) (by grind) (by grind), hrd_hd hw hb0 hb1 (by grind) (by grind)]
