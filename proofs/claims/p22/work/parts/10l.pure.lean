/-! ===== the calls that tell and look: pure words ===== -/
theorem okWm_u {f : Nat → Int32} {j : Nat} {v : Int32} (h : okWm f) (h0 : -30 ≤ v) (h1 : v ≤ 50) : okWm (upd f j v) := by
  intro i
  unfold upd
  split
  · exact ⟨h0, h1⟩
  · exact h i
theorem point_ok2 {fd fh fd2 fh2 : Nat → Int32} {p p2 d t : Int32} (h0 : 0 ≤ p) (h6 : p < 6) (hd : okDeg fd p) (ht : okTh fh p) (hb : ¬ bGo fd fh p d t) (e1 : p < 6 → p2 = p + 1) (e2 : p < 6 → fd2 = upd fd p.toNatClampNeg d) (e3 : p < 6 → fh2 = upd fh p.toNatClampNeg t) : okDeg fd2 p2 ∧ okTh fh2 p2 :=
  (point_ok (r := p + 1) h0 (by grind) hd ht (fun q => absurd q hb) (fun _ q => absurd q (by grind)) (fun _ _ => ⟨rfl, e1 h6, e2 h6, e3 h6⟩)).2.2
theorem plc_in {f : Nat → Int32} {n a : Int32} (hok : okP f n) (hn : n ≤ 10) (h0 : 0 ≤ a) (h1 : a < n) : 0 ≤ plc f a n.toNatClampNeg ∧ plc f a n.toNatClampNeg < n ∧ f (plc f a n.toNatClampNeg).toNatClampNeg = a := by
  have hN := cl_le (n := n) (M := 10) (k := 10) rfl hn
  obtain ⟨i, hi, e⟩ := hok.2 a h0 h1
  have hp : plc f a n.toNatClampNeg = nI i := plc_at (by omega) e (fun j hj q => by
    have := inj_has hn hok.2 (show j < n.toNatClampNeg by omega) hi (q.trans e.symm)
    omega) _ hi
  rw [hp]
  refine ⟨nI_pos' (by omega), ?_, by rw [nI_clamp (by omega)]; exact e⟩
  rw [cl_nI n (by grind)]
  exact nI_lt hi (by omega)
theorem ord_x {f f2 : Nat → Int32} {n a i r : Int32} (hok : okP f n) (hn : n ≤ 10) (h : inP a i n) (er : r = plc f a n.toNatClampNeg) (hm : 0 ≤ r ∧ r < n ∧ 0 ≤ i ∧ i < n → f2 = mv f r.toNatClampNeg i.toNatClampNeg) : f2 = mv f (plc f a n.toNatClampNeg).toNatClampNeg i.toNatClampNeg ∧ okP f2 n := by
  have hp := plc_in hok hn h.1 h.2.1
  have e := hm ⟨by rw [er]; exact hp.1, by rw [er]; exact hp.2.1, h.2.2.1, h.2.2.2⟩
  rw [er] at e
  refine ⟨e, ?_⟩
  rw [e]
  exact okP_mv hok (cl_mono hp.1 hp.2.1) (cl_mono h.2.2.1 h.2.2.2)
def rAbt (uk uf uv us un wh : Nat → Int32) (σ : Int32 → Int32) (rf : Nat → Int32) (n a w : Int32) : Int32 := if a < 0 ∨ n ≤ a then -1 else if w = 0 then uk a.toNatClampNeg else if w = 1 then uf a.toNatClampNeg else if w = 2 then uv a.toNatClampNeg else if w = 3 then us a.toNatClampNeg else if w = 4 then un a.toNatClampNeg else if w = 5 then wh a.toNatClampNeg else if w = 6 then (if wh a.toNatClampNeg = -1 then -1 else σ (wh a.toNatClampNeg)) else if w = 7 then plc rf a n.toNatClampNeg else -1
def rCnt (n : Int32) (wh : Nat → Int32) (td pts gl bw le w : Int32) : Int32 := if w = 0 then n else if w = 1 then cnP wh n.toNatClampNeg else if w = 2 then td else if w = 3 then pts else if w = 4 then gl else if w = 5 then bw else if w = 6 then le else -1
