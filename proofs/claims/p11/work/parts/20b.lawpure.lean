theorem point_b {fd fh fd2 fh2 : Nat → Int32} {p p2 d t r : Int32} (h0 : 0 ≤ p) (h6 : p ≤ 6) (c1 : bGo fd fh p d t → r = -2 ∧ p2 = p ∧ fd2 = fd ∧ fh2 = fh) (c2 : ¬ bGo fd fh p d t → p = 6 → r = -4 ∧ p2 = p ∧ fd2 = fd ∧ fh2 = fh) (c3 : ¬ bGo fd fh p d t → p < 6 → r = p + 1 ∧ p2 = p + 1 ∧ fd2 = upd fd p.toNatClampNeg d ∧ fh2 = upd fh p.toNatClampNeg t) : 0 ≤ p2 ∧ p2 ≤ 6 := by
  by_cases hg : bGo fd fh p d t
  · obtain ⟨_, rfl, _⟩ := c1 hg
    exact ⟨h0, h6⟩
  · by_cases hp : p = 6
    · obtain ⟨_, rfl, _⟩ := c2 hg hp
      exact ⟨h0, h6⟩
    · obtain ⟨_, rfl, _⟩ := c3 hg (by grind)
      constructor <;> grind
theorem bGo_eq {fd fh gd gh : Nat → Int32} {p d t : Int32} (h0 : 0 ≤ p) (e1 : eqN p.toNatClampNeg fd gd) (e2 : eqN p.toNatClampNeg fh gh) : bGo fd fh p d t ↔ bGo gd gh p d t := by
  unfold bGo
  by_cases h : 0 < p
  · have hl := cl_mono (k := p - 1) (n := p) (by grind) (by grind)
    rw [e1 _ hl, e2 _ hl]
  · simp [h]
theorem eqN_app {p : Int32} {f g : Nat → Int32} {v : Int32} (h0 : 0 ≤ p) (h6 : p < 6) (h : eqN p.toNatClampNeg f g) : eqN (p + 1).toNatClampNeg (upd f p.toNatClampNeg v) (upd g p.toNatClampNeg v) := by
  intro j hj
  rw [cl_s h0 (by grind)] at hj
  unfold upd
  split
  · rfl
  · exact h j (by omega)
theorem point_eq {fd fh fd2 fh2 gd gh gd2 gh2 : Nat → Int32} {p p2 q2 d t r s : Int32} (h0 : 0 ≤ p) (h6 : p ≤ 6) (e1 : eqN p.toNatClampNeg fd gd) (e2 : eqN p.toNatClampNeg fh gh) (c1 : bGo fd fh p d t → r = -2 ∧ p2 = p ∧ fd2 = fd ∧ fh2 = fh) (c2 : ¬ bGo fd fh p d t → p = 6 → r = -4 ∧ p2 = p ∧ fd2 = fd ∧ fh2 = fh) (c3 : ¬ bGo fd fh p d t → p < 6 → r = p + 1 ∧ p2 = p + 1 ∧ fd2 = upd fd p.toNatClampNeg d ∧ fh2 = upd fh p.toNatClampNeg t) (m1 : bGo gd gh p d t → s = -2 ∧ q2 = p ∧ gd2 = gd ∧ gh2 = gh) (m2 : ¬ bGo gd gh p d t → p = 6 → s = -4 ∧ q2 = p ∧ gd2 = gd ∧ gh2 = gh) (m3 : ¬ bGo gd gh p d t → p < 6 → s = p + 1 ∧ q2 = p + 1 ∧ gd2 = upd gd p.toNatClampNeg d ∧ gh2 = upd gh p.toNatClampNeg t) : r = s ∧ p2 = q2 ∧ eqN p2.toNatClampNeg fd2 gd2 ∧ eqN p2.toNatClampNeg fh2 gh2 := by
  have hb := bGo_eq (d := d) (t := t) h0 e1 e2
  by_cases hg : bGo fd fh p d t
  · obtain ⟨rfl, rfl, rfl, rfl⟩ := c1 hg
    obtain ⟨rfl, rfl, rfl, rfl⟩ := m1 (hb.mp hg)
    exact ⟨rfl, rfl, e1, e2⟩
  · by_cases hp : p = 6
    · obtain ⟨rfl, rfl, rfl, rfl⟩ := c2 hg hp
      obtain ⟨rfl, rfl, rfl, rfl⟩ := m2 (fun q => hg (hb.mpr q)) hp
      exact ⟨rfl, rfl, e1, e2⟩
    · obtain ⟨rfl, rfl, rfl, rfl⟩ := c3 hg (by grind)
      obtain ⟨rfl, rfl, rfl, rfl⟩ := m3 (fun q => hg (hb.mpr q)) (by grind)
      exact ⟨rfl, rfl, eqN_app h0 (by grind) e1, eqN_app h0 (by grind) e2⟩
theorem hof_eq {fd fh gd gh : Nat → Int32} {p d : Int32} (h0 : 0 ≤ p) (e1 : eqN p.toNatClampNeg fd gd) (e2 : eqN p.toNatClampNeg fh gh) : hof fd fh p d 7 0 0 0 = hof gd gh p d 7 0 0 0 := by
  have key : ∀ (n i : Nat) (g h : Int32), n + i ≤ 7 → hof fd fh p d n i g h = hof gd gh p d n i g h := by
    intro n
    induction n with
    | zero => intro i g h _; rfl
    | succ n ih =>
      intro i g h hn
      show (if p ≤ nI i ∨ 6 ≤ nI i then h else if d < fd i ∧ 0 < fd i - g then h + (fh i - h) * (d - g) / (fd i - g) else hof fd fh p d n (i + 1) (fd i) (fh i)) = (if p ≤ nI i ∨ 6 ≤ nI i then h else if d < gd i ∧ 0 < gd i - g then h + (gh i - h) * (d - g) / (gd i - g) else hof gd gh p d n (i + 1) (gd i) (gh i))
      by_cases hc : p ≤ nI i ∨ 6 ≤ nI i
      · rw [if_pos hc, if_pos hc]
      · rw [if_neg hc, if_neg hc]
        have hi : i < p.toNatClampNeg := tb_cl rfl (by omega) (fun q => hc (Or.inl q))
        rw [e1 i hi, e2 i hi]
        split
        · rfl
        · exact ih (i + 1) _ _ (by omega)
  exact key 7 0 0 0 (by omega)
