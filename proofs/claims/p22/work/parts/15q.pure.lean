theorem point_b {fd fh fd2 fh2 : Nat → Int32} {p p2 d t r : Int32} (h0 : 0 ≤ p) (h6 : p ≤ 6) (c1 : bGo fd fh p d t → r = -2 ∧ p2 = p ∧ fd2 = fd ∧ fh2 = fh) (c2 : ¬ bGo fd fh p d t → p = 6 → r = -4 ∧ p2 = p ∧ fd2 = fd ∧ fh2 = fh) (c3 : ¬ bGo fd fh p d t → p < 6 → r = p + 1 ∧ p2 = p + 1 ∧ fd2 = upd fd p.toNatClampNeg d ∧ fh2 = upd fh p.toNatClampNeg t) : 0 ≤ p2 ∧ p2 ≤ 6 := by
  by_cases hg : bGo fd fh p d t
  · obtain ⟨_, rfl, _⟩ := c1 hg
    exact ⟨h0, h6⟩
  · by_cases hp : p = 6
    · obtain ⟨_, rfl, _⟩ := c2 hg hp
      exact ⟨h0, h6⟩
    · obtain ⟨_, rfl, _⟩ := c3 hg (by grind)
      constructor <;> grind
theorem bGo_eq {fd fh gd gh : Nat → Int32} {p d t : Int32} (h0 : 0 ≤ p) (e1 : eqN p.toNatClampNeg fd gd) (e2 : eqN p.toNatClampNeg fh gh) : bGo fd fh p d t ↔ bGo gd gh p d t := by
  unfold bGo
  by_cases h : 0 < p
  · have hl := cl_mono (k := p - 1) (n := p) (by grind) (by grind)
    rw [e1 _ hl, e2 _ hl]
  · simp [h]
theorem eqN_app {p : Int32} {f g : Nat → Int32} {v : Int32} (h0 : 0 ≤ p) (h6 : p < 6) (h : eqN p.toNatClampNeg f g) : eqN (p + 1).toNatClampNeg (upd f p.toNatClampNeg v) (upd g p.toNatClampNeg v) := by
  intro j hj
  rw [cl_s h0 (by grind)] at hj
  unfold upd
  split
  · rfl
  · exact h j (by omega)
theorem point_eq {fd fh fd2 fh2 gd gh gd2 gh2 : Nat → Int32} {p p2 q2 d t r s : Int32} (h0 : 0 ≤ p) (h6 : p ≤ 6) (e1 : eqN p.toNatClampNeg fd gd) (e2 : eqN p.toNatClampNeg fh gh) (c1 : bGo fd fh p d t → r = -2 ∧ p2 = p ∧ fd2 = fd ∧ fh2 = fh) (c2 : ¬ bGo fd fh p d t → p = 6 → r = -4 ∧ p2 = p ∧ fd2 = fd ∧ fh2 = fh) (c3 : ¬ bGo fd fh p d t → p < 6 → r = p + 1 ∧ p2 = p + 1 ∧ fd2 = upd fd p.toNatClampNeg d ∧ fh2 = upd fh p.toNatClampNeg t) (m1 : bGo gd gh p d t → s = -2 ∧ q2 = p ∧ gd2 = gd ∧ gh2 = gh) (m2 : ¬ bGo gd gh p d t → p = 6 → s = -4 ∧ q2 = p ∧ gd2 = gd ∧ gh2 = gh) (m3 : ¬ bGo gd gh p d t → p < 6 → s = p + 1 ∧ q2 = p + 1 ∧ gd2 = upd gd p.toNatClampNeg d ∧ gh2 = upd gh p.toNatClampNeg t) : r = s ∧ p2 = q2 ∧ eqN p2.toNatClampNeg fd2 gd2 ∧ eqN p2.toNatClampNeg fh2 gh2 := by
  have hb := bGo_eq (d := d) (t := t) h0 e1 e2
  by_cases hg : bGo fd fh p d t
  · obtain ⟨rfl, rfl, rfl, rfl⟩ := c1 hg
    obtain ⟨rfl, rfl, rfl, rfl⟩ := m1 (hb.mp hg)
    exact ⟨rfl, rfl, e1, e2⟩
  · by_cases hp : p = 6
    · obtain ⟨rfl, rfl, rfl, rfl⟩ := c2 hg hp
      obtain ⟨rfl, rfl, rfl, rfl⟩ := m2 (fun q => hg (hb.mpr q)) hp
      exact ⟨rfl, rfl, e1, e2⟩
    · obtain ⟨rfl, rfl, rfl, rfl⟩ := c3 hg (by grind)
      obtain ⟨rfl, rfl, rfl, rfl⟩ := m3 (fun q => hg (hb.mpr q)) (by grind)
      exact ⟨rfl, rfl, eqN_app h0 (by grind) e1, eqN_app h0 (by grind) e2⟩
theorem hof_eq {fd fh gd gh : Nat → Int32} {p d : Int32} (h0 : 0 ≤ p) (e1 : eqN p.toNatClampNeg fd gd) (e2 : eqN p.toNatClampNeg fh gh) : hof fd fh p d 7 0 0 0 = hof gd gh p d 7 0 0 0 := by
  have key : ∀ (n i : Nat) (g h : Int32), n + i ≤ 7 → hof fd fh p d n i g h = hof gd gh p d n i g h := by
    intro n
    induction n with
    | zero => intro i g h _; rfl
    | succ n ih =>
      intro i g h hn
      show (if p ≤ nI i ∨ 6 ≤ nI i then h else if d < fd i ∧ 0 < fd i - g then h + (fh i - h) * (d - g) / (fd i - g) else hof fd fh p d n (i + 1) (fd i) (fh i)) = (if p ≤ nI i ∨ 6 ≤ nI i then h else if d < gd i ∧ 0 < gd i - g then h + (gh i - h) * (d - g) / (gd i - g) else hof gd gh p d n (i + 1) (gd i) (gh i))
      by_cases hc : p ≤ nI i ∨ 6 ≤ nI i
      · rw [if_pos hc, if_pos hc]
      · rw [if_neg hc, if_neg hc]
        have hi : i < p.toNatClampNeg := tb_cl rfl (by omega) (fun q => hc (Or.inl q))
        rw [e1 i hi, e2 i hi]
        split
        · rfl
        · exact ih (i + 1) _ _ (by omega)
  exact key 7 0 0 0 (by omega)

/-! ===== class and reference beside each other ===== -/
theorem pS_eq {fw gw : Nat → Int32} {b : Int32} (h : eqN 40 fw gw) : ∀ d, d ≤ 40 → pS fw b d = pS gw b d
  | 0, _ => rfl
  | d + 1, hd => by
    show pS fw b d + dgF fw b d = pS gw b d + dgF gw b d
    unfold dgF
    rw [pS_eq h d (by omega), h d (by omega)]
theorem hdF_eq {fw gw fd fh gd gh : Nat → Int32} {b pts : Int32} (h0 : 0 ≤ pts) (h : eqN 40 fw gw) (e1 : eqN pts.toNatClampNeg fd gd) (e2 : eqN pts.toNatClampNeg fh gh) {p d : Nat} (hp : p ≤ 40) (hd : d ≤ 40) : hdF fw b fd fh pts p d = hdF gw b gd gh pts p d := by
  unfold hdF
  rw [pS_eq h p hp, pS_eq h d hd, hof_eq h0 e1 e2]
theorem stG_eq {f g : Nat → Int32} {sp : Int32} : ∀ n d : Nat, (∀ x, d ≤ x → x < d + n → f x = g x) → stG f sp n d = stG g sp n d
  | 0, _, _ => rfl
  | n + 1, d, h => by
    show (if sp ≤ f d then nI d else stG f sp n (d + 1)) = (if sp ≤ g d then nI d else stG g sp n (d + 1))
    rw [h d (Nat.le_refl _) (by omega), stG_eq n (d + 1) (fun x h1 h2 => h x (by omega) (by omega))]
theorem stF_eq {fw gw fd fh gd gh : Nat → Int32} {b pts sp : Int32} (h0 : 0 ≤ pts) (h : eqN 40 fw gw) (e1 : eqN pts.toNatClampNeg fd gd) (e2 : eqN pts.toNatClampNeg fh gh) {p : Nat} (hp : p ≤ 39) : stF fw b fd fh pts sp p = stF gw b gd gh pts sp p := by
  unfold stF
  exact stG_eq _ _ (fun x h1 h2 => hdF_eq h0 h e1 e2 (by omega) (by omega))
theorem sg_cr {fw gw fd fh gd gh fs : Nat → Int32} {b pts sp d : Int32} (hp : 0 ≤ pts) (h : eqN 40 fw gw) (e1 : eqN pts.toNatClampNeg fd gd) (e2 : eqN pts.toNatClampNeg fh gh) (hfs : okFs fw b fd fh pts sp fs) (h0 : -1 ≤ d) (h1 : d ≤ 39) : sdf fs d = sgM gw b gd gh pts sp d := by
  rw [sg_eq hfs h0 h1]
  unfold sgM
  split
  · rfl
  · exact stF_eq hp h e1 e2 (cl_le (n := d) (M := 39) (k := 39) rfl h1)
theorem okWm_eq40 {fw gw : Nat → Int32} (h : okWm fw) (e : eqN 40 fw gw) : ∀ i : Nat, i < 40 → -30 ≤ gw i ∧ gw i ≤ 50 := fun i hi => by
  rw [← e i hi]
  exact h i
theorem et_cr {fw gw fd fh gd gh fg : Nat → Int32} {b pts d day : Int32} (hp : 0 ≤ pts) (hw : okWm fw) (hw2 : okWm gw) (hb0 : 0 ≤ b) (hb1 : b ≤ 20) (h : eqN 40 fw gw) (e1 : eqN pts.toNatClampNeg fd gd) (e2 : eqN pts.toNatClampNeg fh gh) (hg : okFg fw b fg) (h0 : -1 ≤ d) (h3 : day ≤ 39) : hon fd fh fg pts d day = etM gw b gd gh pts d day := by
  rw [et_eq hw hb0 hb1 hg h0 h3]
  unfold etM
  by_cases q : bSt d day = 0
  · rw [if_pos q, if_pos q]
  · rw [if_neg q, if_neg q]
    have hq : d ≤ day := by
      unfold bSt at q
      grind
    have c1 := cl_le (n := day) (M := 39) (k := 39) rfl h3
    have c2 := cl_mle hq
    rw [hrd_hd hw hb0 hb1 hq (by grind), hrd_hd hw2 hb0 hb1 hq (by grind)]
    exact hdF_eq hp h e1 e2 (by omega) (by omega)
theorem agr_of {M : Nat → Nat → Int32} {fw fl fd fh fg fs p0 p1 p2 p3 p4 ff zah zwm zdg zth zk zf zv zs zn zff : Nat → Int32} {num znum pts zpts bw zbw gl zgl zsp zbe : Int32} (hn1 : num ≤ 10) (hp0 : 0 ≤ pts) (hwm : okWm fw) (ywm : okWm zwm) (hb0 : 0 ≤ bw) (hb20 : bw ≤ 20) (hg : okFg fw bw fg) (hfs : okFs fw bw fd fh pts (fl 0) fs) (hz : okSz p3) (e_M : eqM M zah) (e_fw : eqN 40 fw zwm) (e_fd : eqN pts.toNatClampNeg fd zdg) (e_fh : eqN pts.toNatClampNeg fh zth) (e_ff : eqN 3 ff zff) (e_p0 : eqN num.toNatClampNeg p0 zk) (e_p1 : eqN num.toNatClampNeg p1 zf) (e_p2 : eqN num.toNatClampNeg p2 zv) (e_p3 : eqN num.toNatClampNeg p3 zs) (e_p4 : eqN num.toNatClampNeg p4 zn) (e_num : num = znum) (e_pts : pts = zpts) (e_bw : bw = zbw) (e_gl : gl = zgl) (e_l0 : fl 0 = zsp) (e_l1 : fl 1 = zbe) : mbE num.toNatClampNeg (mayB M (sdf fs) (hon fd fh fg pts) p0 p1 p2 p3 p4 ff gl (fl 1) num.toNatClampNeg) (mayB (mat zah) (sgM zwm zbw zdg zth zpts zsp) (etM zwm zbw zdg zth zpts) zk zf zv zs zn zff zgl zbe znum.toNatClampNeg) ∧ (∀ d : Int32, -1 ≤ d → d ≤ 39 → sdf fs d = sgM zwm zbw zdg zth zpts zsp d) ∧ (∀ d day : Int32, -1 ≤ d → day ≤ 39 → hon fd fh fg pts d day = etM zwm zbw zdg zth zpts d day) := by
  subst e_num e_pts e_bw e_gl
  rw [← e_l0, ← e_l1]
  have hN := cl_le (n := num) (M := 10) (k := 10) rfl hn1
  have hσ : ∀ d : Int32, -1 ≤ d → d ≤ 39 → sdf fs d = sgM zwm bw zdg zth pts (fl 0) d := fun d h0 h1 => sg_cr hp0 e_fw e_fd e_fh hfs h0 h1
  have hη : ∀ d day : Int32, -1 ≤ d → day ≤ 39 → hon fd fh fg pts d day = etM zwm bw zdg zth pts d day := fun d day h0 h3 => et_cr hp0 hwm ywm hb0 hb20 e_fw e_fd e_fh hg h0 h3
  refine ⟨?_, hσ, hη⟩
  intro w v hwv hb p day hp h0 h1
  refine mayB_eq (fun a b ha hb2 => e_M a b (by omega) (by omega)) (fun i hi => ⟨e_p0 i hi, e_p1 i hi, e_p2 i hi, e_p3 i hi, e_p4 i hi, hwv i hi⟩) (fun i hi => ?_) (fun i hi => ?_) e_ff hz hp
  · rw [hσ _ (hb i hi).1 (hb i hi).2, hwv i hi]
  · rw [hη _ _ (hb i hi).1 h1, hwv i hi]
theorem EP_cr {σ τ : Int32 → Int32} {mb mc : (Nat → Int32) → Int32 → Int32 → Bool} {w v : Nat → Int32} {n nw : Int32} (hm : mbE n.toNatClampNeg mb mc) (hσ : ∀ d : Int32, -1 ≤ d → d ≤ 39 → σ d = τ d) (e : eqN n.toNatClampNeg w v) (hw : okWh w) (h0 : 0 ≤ nw) (h1 : nw ≤ 39) : ∀ a b : Nat → Int32, okP a n → (∀ j, j < n.toNatClampNeg → a j = b j) → EP σ mb n.toNatClampNeg nw w a = EP τ mc n.toNatClampNeg nw v b := by
  intro a b ha e2
  have h := plF_eq hm (row_cl ha.1) e2 e (fun i _ => hw i) h0 (by grind)
  unfold EP
  exact enF_eq (fun i hi => by rw [hσ _ (h.2 i hi).1 (h.2 i hi).2, h.1 i hi])
theorem pl_tail {mb : (Nat → Int32) → Int32 → Int32 → Bool} {rf w : Nat → Int32} {n nw : Int32} (hr : okRow rf n) (h5 : ∀ i : Nat, n.toNatClampNeg ≤ i → i < 10 → w i = -1) : ∀ i : Nat, n.toNatClampNeg ≤ i → i < 10 → plF mb rf n.toNatClampNeg nw w i = -1 := by
  intro i h1 h2
  show dyF mb rf n.toNatClampNeg nw (unp n.toNatClampNeg nw w) (40 - nw.toNatClampNeg) i = -1
  rw [dyF_ge (row_cl hr) h1]
  unfold unp
  rw [if_neg (by omega)]
  exact h5 i h1 h2
theorem plan_cr {σ τ : Int32 → Int32} {mb mc : (Nat → Int32) → Int32 → Int32 → Bool} {sf so w v q u : Nat → Int32} {n m nw nz r s : Int32} (hA : mbE n.toNatClampNeg mb mc ∧ (∀ d : Int32, -1 ≤ d → d ≤ 39 → σ d = τ d)) (hok : okP sf n) (e_sf : eqN n.toNatClampNeg sf so) (e5 : eqN n.toNatClampNeg w v) (hw : okWh w) (h5 : ∀ i : Nat, n.toNatClampNeg ≤ i → i < 10 → w i = -1) (h0 : 0 ≤ nw) (h1 : nw ≤ 39) (en : n = m) (et : nw = nz) (hq : q = plF mb sf n.toNatClampNeg nw w) (hu : u = plF mc so m.toNatClampNeg nz v) (hr : r = enF σ q n.toNatClampNeg) (hs : s = enF τ u m.toNatClampNeg) : r = s ∧ eqN n.toNatClampNeg q u ∧ okWh q ∧ ∀ i : Nat, n.toNatClampNeg ≤ i → i < 10 → q i = -1 := by
  subst en et
  have h := plF_eq hA.1 (row_cl hok.1) e_sf e5 (fun i _ => hw i) h0 (show nw ≤ 40 by grind)
  refine ⟨?_, ?_, ?_, ?_⟩
  · rw [hr, hs, hq, hu]
    exact enF_eq (fun i hi => by rw [hA.2 _ (h.2 i hi).1 (h.2 i hi).2, h.1 i hi])
  · rw [hq, hu]
    exact h.1
  · rw [hq]
    exact okWh_pl hw h0 (by grind)
  · rw [hq]
    exact pl_tail hok.1 h5
theorem better_cr {σ τ : Int32 → Int32} {mb mc : (Nat → Int32) → Int32 → Int32 → Bool} {sf so w v q u sf2 so2 : Nat → Int32} {n m nw nz r s le ze : Int32} (hA : mbE n.toNatClampNeg mb mc ∧ (∀ d : Int32, -1 ≤ d → d ≤ 39 → σ d = τ d)) (hok : okP sf n) (e_sf : eqN n.toNatClampNeg sf so) (e5 : eqN n.toNatClampNeg w v) (hw : okWh w) (h5 : ∀ i : Nat, n.toNatClampNeg ≤ i → i < 10 → w i = -1) (h0 : 0 ≤ nw) (h1 : nw ≤ 39) (en : n = m) (et : nw = nz) (hs1 : sf2 = btR (EP σ mb n.toNatClampNeg nw w) n.toNatClampNeg sf 10) (hr1 : r = btC (EP σ mb n.toNatClampNeg nw w) n.toNatClampNeg sf 10) (hs2 : so2 = btR (EP τ mc m.toNatClampNeg nz v) m.toNatClampNeg so 10) (hr2 : s = btC (EP τ mc m.toNatClampNeg nz v) m.toNatClampNeg so 10) (hq : q = plF mb sf2 n.toNatClampNeg nw w) (hu : u = plF mc so2 m.toNatClampNeg nz v) (hr : le = enF σ q n.toNatClampNeg) (hs : ze = enF τ u m.toNatClampNeg) : r = s ∧ le = ze ∧ eqN n.toNatClampNeg sf2 so2 ∧ okP sf2 n ∧ eqN n.toNatClampNeg q u ∧ okWh q ∧ ∀ i : Nat, n.toNatClampNeg ≤ i → i < 10 → q i = -1 := by
  subst en et
  have hE := EP_cr hA.1 hA.2 e5 hw h0 h1
  have hb := btR_eq hE hok e_sf 10
  have o2 := btR_ok (E := EP σ mb n.toNatClampNeg nw w) hok 10
  rw [← hs1] at o2
  rw [← hs1, ← hs2, ← hr1, ← hr2] at hb
  obtain ⟨a, b, c, d⟩ := plan_cr hA o2 hb.1 e5 hw h5 h0 h1 rfl rfl hq hu hr hs
  exact ⟨hb.2, a, hb.1, o2, b, c, d⟩
theorem best_cr {σ τ : Int32 → Int32} {mb mc : (Nat → Int32) → Int32 → Int32 → Bool} {sf so w v q u sf2 so2 : Nat → Int32} {n m nw nz r s le ze le0 ze0 : Int32} (hA : mbE n.toNatClampNeg mb mc ∧ (∀ d : Int32, -1 ≤ d → d ≤ 39 → σ d = τ d)) (hn0 : 0 ≤ n) (hσ : ∀ d, σ d ≤ 40) (hok : okP sf n) (e_sf : eqN n.toNatClampNeg sf so) (e5 : eqN n.toNatClampNeg w v) (hw : okWh w) (h5 : ∀ i : Nat, n.toNatClampNeg ≤ i → i < 10 → w i = -1) (h0 : 0 ≤ nw) (h1 : nw ≤ 39) (en : n = m) (et : nw = nz) (el : le0 = ze0) (c1 : (n < 1 ∨ 5 < n) → r = -3 ∧ sf2 = sf ∧ q = w ∧ le = le0) (c2 : ¬ (n < 1 ∨ 5 < n) → ∀ i : Nat, i < n.toNatClampNeg → sf2 i = dig n (bsI (EP σ mb n.toNatClampNeg nw w) n (pwN n)) i) (c3 : ¬ (n < 1 ∨ 5 < n) → q = plF mb sf2 n.toNatClampNeg nw w) (c4 : ¬ (n < 1 ∨ 5 < n) → r = enF σ q n.toNatClampNeg ∧ le = r) (m1 : (m < 1 ∨ 5 < m) → s = -3 ∧ so2 = so ∧ u = v ∧ ze = ze0) (m2 : ¬ (m < 1 ∨ 5 < m) → ∀ i : Nat, i < m.toNatClampNeg → so2 i = dig m (bsI (EP τ mc m.toNatClampNeg nz v) m (pwN m)) i) (m3 : ¬ (m < 1 ∨ 5 < m) → u = plF mc so2 m.toNatClampNeg nz v) (m4 : ¬ (m < 1 ∨ 5 < m) → s = enF τ u m.toNatClampNeg ∧ ze = s) : r = s ∧ le = ze ∧ eqN n.toNatClampNeg sf2 so2 ∧ okP sf2 n ∧ eqN n.toNatClampNeg q u ∧ okWh q ∧ ∀ i : Nat, n.toNatClampNeg ≤ i → i < 10 → q i = -1 := by
  subst en et el
  by_cases hc : n < 1 ∨ 5 < n
  · obtain ⟨rfl, rfl, rfl, rfl⟩ := c1 hc
    obtain ⟨rfl, rfl, rfl, rfl⟩ := m1 hc
    exact ⟨rfl, rfl, e_sf, hok, e5, hw, h5⟩
  · have hz : ¬ n = 0 := fun e => hc (Or.inl (by rw [e]; decide))
    have h2 : n ≤ 5 := by grind
    have hE := EP_cr hA.1 hA.2 e5 hw h0 h1
    have hb := bs_eq (E := EP σ mb n.toNatClampNeg nw w) (F := EP τ mc n.toNatClampNeg nw v) (n := n) (pwN n) (fun t ht hv => hE _ _ (dig_ok hz hn0 h2 hv ht) (fun _ _ => rfl))
    have a2 := c2 hc
    have b2 := m2 hc
    rw [← hb.2] at b2
    have o2 : okP sf2 n := best_ok hz hn0 h2 (fun g => EP_le hσ) a2
    have e2 : eqN n.toNatClampNeg sf2 so2 := fun i hi => by rw [a2 i hi, b2 i hi]
    have a4 := c4 hc
    have b4 := m4 hc
    obtain ⟨a, b, c, d⟩ := plan_cr hA o2 e2 e5 hw h5 h0 h1 rfl rfl (c3 hc) (m3 hc) a4.1 b4.1
    exact ⟨a, by rw [a4.2, b4.2]; exact a, e2, o2, b, c, d⟩
theorem cnG_eq {d : Int32} {w v : Nat → Int32} : ∀ n, (∀ i, i < n → w i = v i) → cnG d w n = cnG d v n
  | 0, _ => rfl
  | n + 1, h => by
    show (if d ≤ w n then cnG d w n + 1 else cnG d w n) = (if d ≤ v n then cnG d v n + 1 else cnG d v n)
    rw [cnG_eq n (fun i hi => h i (by omega)), h n (by omega)]
theorem cnP_eq {w v : Nat → Int32} : ∀ n, (∀ i, i < n → w i = v i) → cnP w n = cnP v n
  | 0, _ => rfl
  | n + 1, h => by
    show (if w n = -1 then cnP w n else cnP w n + 1) = (if v n = -1 then cnP v n else cnP v n + 1)
    rw [cnP_eq n (fun i hi => h i (by omega)), h n (by omega)]
theorem now_cr {w v q u : Nat → Int32} {n m nw nz d r s t2 z2 : Int32} (e5 : eqN n.toNatClampNeg w v) (hw : okWh w) (h5 : ∀ i : Nat, n.toNatClampNeg ≤ i → i < 10 → w i = -1) (h0 : 0 ≤ nw) (h1 : nw ≤ 39) (en : n = m) (et : nw = nz) (c1 : (d < 0 ∨ 39 < d) → r = -1 ∧ t2 = nw ∧ q = w) (c2 : ¬ (d < 0 ∨ 39 < d) → d < nw → r = -2 ∧ t2 = nw ∧ q = w) (c3 : ¬ (d < 0 ∨ 39 < d) → ¬ d < nw → r = cnG d w n.toNatClampNeg ∧ t2 = d ∧ q = unp n.toNatClampNeg d w) (m1 : (d < 0 ∨ 39 < d) → s = -1 ∧ z2 = nz ∧ u = v) (m2 : ¬ (d < 0 ∨ 39 < d) → d < nz → s = -2 ∧ z2 = nz ∧ u = v) (m3 : ¬ (d < 0 ∨ 39 < d) → ¬ d < nz → s = cnG d v m.toNatClampNeg ∧ z2 = d ∧ u = unp m.toNatClampNeg d v) : r = s ∧ t2 = z2 ∧ 0 ≤ t2 ∧ t2 ≤ 39 ∧ eqN n.toNatClampNeg q u ∧ okWh q ∧ ∀ i : Nat, n.toNatClampNeg ≤ i → i < 10 → q i = -1 := by
  subst en et
  by_cases hc : d < 0 ∨ 39 < d
  · obtain ⟨rfl, rfl, rfl⟩ := c1 hc
    obtain ⟨rfl, rfl, rfl⟩ := m1 hc
    exact ⟨rfl, rfl, h0, h1, e5, hw, h5⟩
  · by_cases hd : d < nw
    · obtain ⟨rfl, rfl, rfl⟩ := c2 hc hd
      obtain ⟨rfl, rfl, rfl⟩ := m2 hc hd
      exact ⟨rfl, rfl, h0, h1, e5, hw, h5⟩
    · obtain ⟨rfl, rfl, rfl⟩ := c3 hc hd
      obtain ⟨rfl, rfl, rfl⟩ := m3 hc hd
      refine ⟨cnG_eq _ e5, rfl, by grind, by grind, fun i hi => ?_, okWh_unp hw, fun i h2 h3 => ?_⟩
      · unfold unp
        rw [e5 i hi]
      · unfold unp
        rw [if_neg (by omega)]
        exact h5 i h2 h3
theorem order_cr {sf so sf2 so2 : Nat → Int32} {n m a i r s : Int32} (hok : okP sf n) (hn : n ≤ 10) (e_sf : eqN n.toNatClampNeg sf so) (en : n = m) (c1 : ¬ inP a i n → r = -1 ∧ sf2 = sf) (c2 : inP a i n → r = plc sf a n.toNatClampNeg ∧ sf2 = mv sf (plc sf a n.toNatClampNeg).toNatClampNeg i.toNatClampNeg) (m1 : ¬ inP a i m → s = -1 ∧ so2 = so) (m2 : inP a i m → s = plc so a m.toNatClampNeg ∧ ∀ j : Nat, j < m.toNatClampNeg → so2 j = mv so (plc so a m.toNatClampNeg).toNatClampNeg i.toNatClampNeg j) : r = s ∧ eqN n.toNatClampNeg sf2 so2 := by
  subst en
  by_cases hc : inP a i n
  · have x := c2 hc
    have y := m2 hc
    have hp := plc_in hok hn hc.1 hc.2.1
    have ep : plc sf a n.toNatClampNeg = plc so a n.toNatClampNeg := plc_eq _ e_sf
    refine ⟨by rw [x.1, y.1, ep], fun j hj => ?_⟩
    rw [x.2, y.2 j hj, ← ep]
    exact mv_eq (cl_mono hp.1 hp.2.1) (cl_mono hc.2.2.1 hc.2.2.2) e_sf j hj
  · obtain ⟨rfl, rfl⟩ := c1 hc
    obtain ⟨rfl, rfl⟩ := m1 hc
    exact ⟨rfl, e_sf⟩
theorem about_cr {p0 p1 p2 p3 p4 p5 sf zk zf zv zs zn zw so : Nat → Int32} {σ τ : Int32 → Int32} {n m a w : Int32} (hσ : ∀ d : Int32, -1 ≤ d → d ≤ 39 → σ d = τ d) (hw : okWh p5) (e_p0 : eqN n.toNatClampNeg p0 zk) (e_p1 : eqN n.toNatClampNeg p1 zf) (e_p2 : eqN n.toNatClampNeg p2 zv) (e_p3 : eqN n.toNatClampNeg p3 zs) (e_p4 : eqN n.toNatClampNeg p4 zn) (e_p5 : eqN n.toNatClampNeg p5 zw) (e_sf : eqN n.toNatClampNeg sf so) (en : n = m) {r s : Int32} (hr : r = rAbt p0 p1 p2 p3 p4 p5 σ sf n a w) (hs : s = rAbt zk zf zv zs zn zw τ so m a w) : r = s := by
  subst en
  rw [hr, hs]
  unfold rAbt
  by_cases h : a < 0 ∨ n ≤ a
  · rw [if_pos h, if_pos h]
  · have hl := cl_mono (k := a) (n := n) (by grind) (by grind)
    have h6 := hw a.toNatClampNeg
    rw [if_neg h, if_neg h, e_p0 _ hl, e_p1 _ hl, e_p2 _ hl, e_p3 _ hl, e_p4 _ hl, hσ _ h6.1 h6.2, e_p5 _ hl, plc_eq _ e_sf]
theorem hard_cr {p5 zw : Nat → Int32} {η θ : Int32 → Int32 → Int32} {n m a d r s : Int32} (hη : ∀ d day : Int32, -1 ≤ d → day ≤ 39 → η d day = θ d day) (hw : okWh p5) (e_p5 : eqN n.toNatClampNeg p5 zw) (en : n = m) (hr : r = (if a < 0 ∨ n ≤ a ∨ d < 0 ∨ 39 < d then -1 else η (p5 a.toNatClampNeg) d)) (hs : s = (if a < 0 ∨ m ≤ a ∨ d < 0 ∨ 39 < d then -1 else θ (zw a.toNatClampNeg) d)) : r = s := by
  subst en
  rw [hr, hs]
  by_cases h : a < 0 ∨ n ≤ a ∨ d < 0 ∨ 39 < d
  · rw [if_pos h, if_pos h]
  · have hl := cl_mono (k := a) (n := n) (by grind) (by grind)
    rw [if_neg h, if_neg h, hη _ _ (hw a.toNatClampNeg).1 (by grind), e_p5 _ hl]
theorem free_cr {p3 p4 p5 zs zn zw ff zff : Nat → Int32} {σ τ : Int32 → Int32} {n m s1 d r s : Int32} (hσ : ∀ d : Int32, -1 ≤ d → d ≤ 39 → σ d = τ d) (hw : okWh p5) (e_p3 : eqN n.toNatClampNeg p3 zs) (e_p4 : eqN n.toNatClampNeg p4 zn) (e_p5 : eqN n.toNatClampNeg p5 zw) (e_ff : eqN 3 ff zff) (en : n = m) (hr : r = (if s1 < 0 ∨ 2 < s1 ∨ d < 0 ∨ 39 < d then -1 else frF σ (ff s1.toNatClampNeg) p3 p4 p5 s1 d (-1) n.toNatClampNeg)) (hs : s = (if s1 < 0 ∨ 2 < s1 ∨ d < 0 ∨ 39 < d then -1 else frF τ (zff s1.toNatClampNeg) zs zn zw s1 d (-1) m.toNatClampNeg)) : r = s := by
  subst en
  rw [hr, hs]
  by_cases h : s1 < 0 ∨ 2 < s1 ∨ d < 0 ∨ 39 < d
  · rw [if_pos h, if_pos h]
  · have hl := cl_lt (vi_in (x := s1) (M := 3) (n := 3) rfl (by grind) (by grind))
    rw [if_neg h, if_neg h]
    exact frF_eq (e_ff _ hl) _ (fun i hi => ⟨e_p3 i hi, e_p4 i hi, e_p5 i hi, by rw [hσ _ (hw i).1 (hw i).2, e_p5 i hi]⟩)
theorem poured_cr {p2 p5 zv zw : Nat → Int32} {n m d r s : Int32} (e_p2 : eqN n.toNatClampNeg p2 zv) (e_p5 : eqN n.toNatClampNeg p5 zw) (en : n = m) (hr : r = (if d < 0 ∨ 39 < d then -1 else voF p2 p5 d (-1) n.toNatClampNeg)) (hs : s = (if d < 0 ∨ 39 < d then -1 else voF zv zw d (-1) m.toNatClampNeg)) : r = s := by
  subst en
  rw [hr, hs, voF_eq _ (fun i hi => ⟨e_p2 i hi, e_p5 i hi⟩)]
theorem count_cr {p5 zw : Nat → Int32} {n m t1 t2 a1 a2 b1 b2 c1 c2 d1 d2 w r s : Int32} (e_p5 : eqN n.toNatClampNeg p5 zw) (en : n = m) (e1 : t1 = t2) (e2 : a1 = a2) (e3 : b1 = b2) (e4 : c1 = c2) (e5 : d1 = d2) (hr : r = rCnt n p5 t1 a1 b1 c1 d1 w) (hs : s = rCnt m zw t2 a2 b2 c2 d2 w) : r = s := by
  subst en e1 e2 e3 e4 e5
  rw [hr, hs]
  unfold rCnt
  rw [cnP_eq _ e_p5]
theorem piece_cr {k f v s n num znum nu2 zn2 x y : Int32} {p z q u : Nat → Int32} (h0 : 0 ≤ num) (h1 : num ≤ 10) (e : eqN num.toNatClampNeg p z) (en : num = znum) (hn : nu2 = sNum num k f v s n) (hxy : x = y) (hq : q = sPc num k f v s n p x) (hu : u = sPc znum k f v s n z y) : eqN nu2.toNatClampNeg q u := by
  subst en hxy
  rcases sPc_cs num k f v s n with ⟨a, b⟩ | ⟨a, b, c, _⟩
  · rw [hq, hu, hn, a, b, b]
    exact e
  · rw [hq, hu, hn, b, c, c]
    intro j hj
    rw [cl_s h0 (by grind)] at hj
    unfold upd
    split
    · rfl
    · exact e j (by omega)
theorem piece_5 {k f v s n num znum nu2 : Int32} {p z u : Nat → Int32} (h0 : 0 ≤ num) (h1 : num ≤ 10) (e : eqN num.toNatClampNeg p z) (h5 : ∀ i : Nat, num.toNatClampNeg ≤ i → i < 10 → p i = -1) (en : num = znum) (hn : nu2 = sNum num k f v s n) (hu : u = sPc znum k f v s n z (-1)) : eqN nu2.toNatClampNeg p u ∧ ∀ i : Nat, nu2.toNatClampNeg ≤ i → i < 10 → p i = -1 := by
  subst en
  rcases sPc_cs num k f v s n with ⟨a, b⟩ | ⟨a, b, c, _⟩
  · rw [hu, hn, a, b]
    exact ⟨e, h5⟩
  · have hc := cl_le (n := num) (M := 10) (k := 10) rfl h1
    have hl := cl_mono (k := num) (n := 10) h0 (by grind)
    have z10 : (10 : Int32).toNatClampNeg = 10 := rfl
    rw [hu, hn, b, c, cl_s h0 (by grind)]
    refine ⟨fun j hj => ?_, fun i h2 h3 => h5 i (by omega) h3⟩
    unfold upd
    split
    · rename_i q
      rw [q]
      exact h5 _ (Nat.le_refl _) (by omega)
    · exact e j (by omega)
theorem okP_0 {f : Nat → Int32} {n : Int32} (h : n ≤ 0) : okP f n := ⟨okRow_0 h, okHas_0 h⟩
theorem sLev1_b {b w v : Int32} (h : 0 ≤ b) : 0 ≤ sLev1 b w v := by
  unfold sLev1
  split <;> grind
