theorem iw_X0_hardnessOf_0 : ∀ w ∈ wsX00, w ∈ wsX0_hardnessOf := fun w h => (List.mem_cons_of_mem _ (List.mem_append_right _ h))
theorem wd_X0_hardnessOf_1 : (.fieldLink RX0 34 "PourPlan$Curing" "points" "I" : Cond) ∈ wsX0_hardnessOf := List.mem_of_getElem? (i := 1) rfl
theorem wd_X0_hardnessOf_2 : (.fieldLink RX0 18 "PourPlan$Curing" "pointDegrees" "[I" : Cond) ∈ wsX0_hardnessOf := List.mem_of_getElem? (i := 2) rfl
theorem wd_X0_hardnessOf_3 : (.fieldLink RX0 21 "PourPlan$Curing" "pointHardness" "[I" : Cond) ∈ wsX0_hardnessOf := List.mem_of_getElem? (i := 3) rfl
set_option maxHeartbeats 1000000 in
theorem pf_X0_hardnessOf_1 (pts : Int32) (fd : Nat → Int32) (fh : Nat → Int32) (d : Int32) (n_7 : Nat) (i : Nat) (k : Int32) (gd : Int32) (gh : Int32) (hn_7 : 6 - i < n_7 + 1) (ek : k = nI i) (hi : i ≤ 6) (hrr : hof fd fh pts d (7 - i) i gd gh = hof fd fh pts d 7 0 0 0) (c_1 : pts ≤ k) : gh = hof fd fh pts d 7 0 0 0 := by
  rw [hof_s hi] at hrr
  rw [← hrr]
  subst_vars
  grind
set_option maxHeartbeats 1000000 in
theorem pf_X0_hardnessOf_2 (pts : Int32) (fd : Nat → Int32) (fh : Nat → Int32) (d : Int32) (n_7 : Nat) (i : Nat) (k : Int32) (gd : Int32) (gh : Int32) (hn_7 : 6 - i < n_7 + 1) (ek : k = nI i) (hi : i ≤ 6) (hrr : hof fd fh pts d (7 - i) i gd gh = hof fd fh pts d 7 0 0 0) (c_1 : ¬ pts ≤ k) (c_2 : 6 ≤ k) : gh = hof fd fh pts d 7 0 0 0 := by
  rw [hof_s hi] at hrr
  rw [← hrr]
  subst_vars
  grind
set_option maxHeartbeats 1000000 in
theorem pf_X0_hardnessOf_3 (pts : Int32) (fd : Nat → Int32) (fh : Nat → Int32) (d : Int32) (n_7 : Nat) (i : Nat) (k : Int32) (gd : Int32) (gh : Int32) (hn_7 : 6 - i < n_7 + 1) (ek : k = nI i) (hi : i ≤ 6) (hrr : hof fd fh pts d (7 - i) i gd gh = hof fd fh pts d 7 0 0 0) (c_1 : ¬ pts ≤ k) (c_2 : ¬ 6 ≤ k) : vp_in k 6 := by
  have := nI_lt6 ek hi (by assumption)
  subst ek
  exact vp_in_nI this (by omega)
set_option maxHeartbeats 1000000 in
theorem pf_X0_hardnessOf_4 (pts : Int32) (fd : Nat → Int32) (fh : Nat → Int32) (d : Int32) (n_7 : Nat) (i : Nat) (k : Int32) (gd : Int32) (gh : Int32) (v_3 : Int32) (v_4 : Int32) (hn_7 : 6 - i < n_7 + 1) (ek : k = nI i) (hi : i ≤ 6) (hrr : hof fd fh pts d (7 - i) i gd gh = hof fd fh pts d 7 0 0 0) (c_1 : ¬ pts ≤ k) (c_2 : ¬ 6 ≤ k) (ev_3 : v_3 = fd k.toNatClampNeg) (ev_4 : v_4 = v_3 - gd) : vp_in k 6 := by
  have := nI_lt6 ek hi (by assumption)
  subst ek
  exact vp_in_nI this (by omega)
set_option maxHeartbeats 1000000 in
theorem pf_X0_hardnessOf_5 (pts : Int32) (fd : Nat → Int32) (fh : Nat → Int32) (d : Int32) (n_7 : Nat) (i : Nat) (k : Int32) (gd : Int32) (gh : Int32) (v_3 : Int32) (v_4 : Int32) (v_5 : Int32) (hn_7 : 6 - i < n_7 + 1) (ek : k = nI i) (hi : i ≤ 6) (hrr : hof fd fh pts d (7 - i) i gd gh = hof fd fh pts d 7 0 0 0) (c_1 : ¬ pts ≤ k) (c_2 : ¬ 6 ≤ k) (ev_3 : v_3 = fd k.toNatClampNeg) (ev_4 : v_4 = v_3 - gd) (ev_5 : v_5 = fd k.toNatClampNeg) (c_6 : v_5 ≤ d) : vp_in k 6 := by
  have := nI_lt6 ek hi (by assumption)
  subst ek
  exact vp_in_nI this (by omega)
set_option maxHeartbeats 1000000 in
theorem pf_X0_hardnessOf_6 (pts : Int32) (fd : Nat → Int32) (fh : Nat → Int32) (d : Int32) (n_7 : Nat) (i : Nat) (k : Int32) (gd : Int32) (gh : Int32) (v_3 : Int32) (v_4 : Int32) (v_5 : Int32) (v_7 : Int32) (hn_7 : 6 - i < n_7 + 1) (ek : k = nI i) (hi : i ≤ 6) (hrr : hof fd fh pts d (7 - i) i gd gh = hof fd fh pts d 7 0 0 0) (c_1 : ¬ pts ≤ k) (c_2 : ¬ 6 ≤ k) (ev_3 : v_3 = fd k.toNatClampNeg) (ev_4 : v_4 = v_3 - gd) (ev_5 : v_5 = fd k.toNatClampNeg) (c_6 : v_5 ≤ d) (ev_7 : v_7 = fd k.toNatClampNeg) : vp_in k 6 := by
  have := nI_lt6 ek hi (by assumption)
  subst ek
  exact vp_in_nI this (by omega)
set_option maxHeartbeats 1000000 in
theorem pf_X0_hardnessOf_7 (pts : Int32) (fd : Nat → Int32) (fh : Nat → Int32) (d : Int32) (n_7 : Nat) (i : Nat) (k : Int32) (gd : Int32) (gh : Int32) (v_3 : Int32) (v_4 : Int32) (v_5 : Int32) (v_7 : Int32) (v_8 : Int32) (v_9 : Int32) (hn_7 : 6 - i < n_7 + 1) (ek : k = nI i) (hi : i ≤ 6) (hrr : hof fd fh pts d (7 - i) i gd gh = hof fd fh pts d 7 0 0 0) (c_1 : ¬ pts ≤ k) (c_2 : ¬ 6 ≤ k) (ev_3 : v_3 = fd k.toNatClampNeg) (ev_4 : v_4 = v_3 - gd) (ev_5 : v_5 = fd k.toNatClampNeg) (c_6 : v_5 ≤ d) (ev_7 : v_7 = fd k.toNatClampNeg) (ev_8 : v_8 = fh k.toNatClampNeg) (ev_9 : v_9 = k + 1) : 6 - (i + 1) < n_7 := by
  have := nI_lt6 ek hi (by assumption)
  omega
set_option maxHeartbeats 1000000 in
theorem pf_X0_hardnessOf_8 (pts : Int32) (fd : Nat → Int32) (fh : Nat → Int32) (d : Int32) (n_7 : Nat) (i : Nat) (k : Int32) (gd : Int32) (gh : Int32) (v_3 : Int32) (v_4 : Int32) (v_5 : Int32) (v_7 : Int32) (v_8 : Int32) (v_9 : Int32) (hn_7 : 6 - i < n_7 + 1) (ek : k = nI i) (hi : i ≤ 6) (hrr : hof fd fh pts d (7 - i) i gd gh = hof fd fh pts d 7 0 0 0) (c_1 : ¬ pts ≤ k) (c_2 : ¬ 6 ≤ k) (ev_3 : v_3 = fd k.toNatClampNeg) (ev_4 : v_4 = v_3 - gd) (ev_5 : v_5 = fd k.toNatClampNeg) (c_6 : v_5 ≤ d) (ev_7 : v_7 = fd k.toNatClampNeg) (ev_8 : v_8 = fh k.toNatClampNeg) (ev_9 : v_9 = k + 1) : v_9 = nI (i + 1) := by
  subst_vars
  exact nI_1 i
set_option maxHeartbeats 1000000 in
theorem pf_X0_hardnessOf_9 (pts : Int32) (fd : Nat → Int32) (fh : Nat → Int32) (d : Int32) (n_7 : Nat) (i : Nat) (k : Int32) (gd : Int32) (gh : Int32) (v_3 : Int32) (v_4 : Int32) (v_5 : Int32) (v_7 : Int32) (v_8 : Int32) (v_9 : Int32) (hn_7 : 6 - i < n_7 + 1) (ek : k = nI i) (hi : i ≤ 6) (hrr : hof fd fh pts d (7 - i) i gd gh = hof fd fh pts d 7 0 0 0) (c_1 : ¬ pts ≤ k) (c_2 : ¬ 6 ≤ k) (ev_3 : v_3 = fd k.toNatClampNeg) (ev_4 : v_4 = v_3 - gd) (ev_5 : v_5 = fd k.toNatClampNeg) (c_6 : v_5 ≤ d) (ev_7 : v_7 = fd k.toNatClampNeg) (ev_8 : v_8 = fh k.toNatClampNeg) (ev_9 : v_9 = k + 1) : (i + 1) ≤ 6 := by
  have := nI_lt6 ek hi (by assumption)
  omega
set_option maxHeartbeats 1000000 in
theorem pf_X0_hardnessOf_10 (pts : Int32) (fd : Nat → Int32) (fh : Nat → Int32) (d : Int32) (n_7 : Nat) (i : Nat) (k : Int32) (gd : Int32) (gh : Int32) (v_3 : Int32) (v_4 : Int32) (v_5 : Int32) (v_7 : Int32) (v_8 : Int32) (v_9 : Int32) (hn_7 : 6 - i < n_7 + 1) (ek : k = nI i) (hi : i ≤ 6) (hrr : hof fd fh pts d (7 - i) i gd gh = hof fd fh pts d 7 0 0 0) (c_1 : ¬ pts ≤ k) (c_2 : ¬ 6 ≤ k) (ev_3 : v_3 = fd k.toNatClampNeg) (ev_4 : v_4 = v_3 - gd) (ev_5 : v_5 = fd k.toNatClampNeg) (c_6 : v_5 ≤ d) (ev_7 : v_7 = fd k.toNatClampNeg) (ev_8 : v_8 = fh k.toNatClampNeg) (ev_9 : v_9 = k + 1) : hof fd fh pts d (7 - (i + 1)) (i + 1) v_7 v_8 = hof fd fh pts d 7 0 0 0 := by
  have hc : k.toNatClampNeg = i := nI_cl ek (by omega)
  rw [hof_s hi] at hrr
  rw [← hrr]
  simp only [hc] at *
  subst_vars
  grind
set_option maxHeartbeats 1000000 in
theorem pf_X0_hardnessOf_11 (pts : Int32) (fd : Nat → Int32) (fh : Nat → Int32) (d : Int32) (n_7 : Nat) (i : Nat) (k : Int32) (gd : Int32) (gh : Int32) (v_3 : Int32) (v_4 : Int32) (v_5 : Int32) (hn_7 : 6 - i < n_7 + 1) (ek : k = nI i) (hi : i ≤ 6) (hrr : hof fd fh pts d (7 - i) i gd gh = hof fd fh pts d 7 0 0 0) (c_1 : ¬ pts ≤ k) (c_2 : ¬ 6 ≤ k) (ev_3 : v_3 = fd k.toNatClampNeg) (ev_4 : v_4 = v_3 - gd) (ev_5 : v_5 = fd k.toNatClampNeg) (c_6 : ¬ v_5 ≤ d) (c_10 : v_4 ≤ 0) : vp_in k 6 := by
  have := nI_lt6 ek hi (by assumption)
  subst ek
  exact vp_in_nI this (by omega)
set_option maxHeartbeats 1000000 in
theorem pf_X0_hardnessOf_12 (pts : Int32) (fd : Nat → Int32) (fh : Nat → Int32) (d : Int32) (n_7 : Nat) (i : Nat) (k : Int32) (gd : Int32) (gh : Int32) (v_3 : Int32) (v_4 : Int32) (v_5 : Int32) (v_11 : Int32) (hn_7 : 6 - i < n_7 + 1) (ek : k = nI i) (hi : i ≤ 6) (hrr : hof fd fh pts d (7 - i) i gd gh = hof fd fh pts d 7 0 0 0) (c_1 : ¬ pts ≤ k) (c_2 : ¬ 6 ≤ k) (ev_3 : v_3 = fd k.toNatClampNeg) (ev_4 : v_4 = v_3 - gd) (ev_5 : v_5 = fd k.toNatClampNeg) (c_6 : ¬ v_5 ≤ d) (c_10 : v_4 ≤ 0) (ev_11 : v_11 = fd k.toNatClampNeg) : vp_in k 6 := by
  have := nI_lt6 ek hi (by assumption)
  subst ek
  exact vp_in_nI this (by omega)
set_option maxHeartbeats 1000000 in
theorem pf_X0_hardnessOf_13 (pts : Int32) (fd : Nat → Int32) (fh : Nat → Int32) (d : Int32) (n_7 : Nat) (i : Nat) (k : Int32) (gd : Int32) (gh : Int32) (v_3 : Int32) (v_4 : Int32) (v_5 : Int32) (v_11 : Int32) (v_12 : Int32) (v_13 : Int32) (hn_7 : 6 - i < n_7 + 1) (ek : k = nI i) (hi : i ≤ 6) (hrr : hof fd fh pts d (7 - i) i gd gh = hof fd fh pts d 7 0 0 0) (c_1 : ¬ pts ≤ k) (c_2 : ¬ 6 ≤ k) (ev_3 : v_3 = fd k.toNatClampNeg) (ev_4 : v_4 = v_3 - gd) (ev_5 : v_5 = fd k.toNatClampNeg) (c_6 : ¬ v_5 ≤ d) (c_10 : v_4 ≤ 0) (ev_11 : v_11 = fd k.toNatClampNeg) (ev_12 : v_12 = fh k.toNatClampNeg) (ev_13 : v_13 = k + 1) : 6 - (i + 1) < n_7 := by
  have := nI_lt6 ek hi (by assumption)
  omega
set_option maxHeartbeats 1000000 in
theorem pf_X0_hardnessOf_14 (pts : Int32) (fd : Nat → Int32) (fh : Nat → Int32) (d : Int32) (n_7 : Nat) (i : Nat) (k : Int32) (gd : Int32) (gh : Int32) (v_3 : Int32) (v_4 : Int32) (v_5 : Int32) (v_11 : Int32) (v_12 : Int32) (v_13 : Int32) (hn_7 : 6 - i < n_7 + 1) (ek : k = nI i) (hi : i ≤ 6) (hrr : hof fd fh pts d (7 - i) i gd gh = hof fd fh pts d 7 0 0 0) (c_1 : ¬ pts ≤ k) (c_2 : ¬ 6 ≤ k) (ev_3 : v_3 = fd k.toNatClampNeg) (ev_4 : v_4 = v_3 - gd) (ev_5 : v_5 = fd k.toNatClampNeg) (c_6 : ¬ v_5 ≤ d) (c_10 : v_4 ≤ 0) (ev_11 : v_11 = fd k.toNatClampNeg) (ev_12 : v_12 = fh k.toNatClampNeg) (ev_13 : v_13 = k + 1) : v_13 = nI (i + 1) := by
  subst_vars
  exact nI_1 i
set_option maxHeartbeats 1000000 in
theorem pf_X0_hardnessOf_15 (pts : Int32) (fd : Nat → Int32) (fh : Nat → Int32) (d : Int32) (n_7 : Nat) (i : Nat) (k : Int32) (gd : Int32) (gh : Int32) (v_3 : Int32) (v_4 : Int32) (v_5 : Int32) (v_11 : Int32) (v_12 : Int32) (v_13 : Int32) (hn_7 : 6 - i < n_7 + 1) (ek : k = nI i) (hi : i ≤ 6) (hrr : hof fd fh pts d (7 - i) i gd gh = hof fd fh pts d 7 0 0 0) (c_1 : ¬ pts ≤ k) (c_2 : ¬ 6 ≤ k) (ev_3 : v_3 = fd k.toNatClampNeg) (ev_4 : v_4 = v_3 - gd) (ev_5 : v_5 = fd k.toNatClampNeg) (c_6 : ¬ v_5 ≤ d) (c_10 : v_4 ≤ 0) (ev_11 : v_11 = fd k.toNatClampNeg) (ev_12 : v_12 = fh k.toNatClampNeg) (ev_13 : v_13 = k + 1) : (i + 1) ≤ 6 := by
  have := nI_lt6 ek hi (by assumption)
  omega
set_option maxHeartbeats 1000000 in
theorem pf_X0_hardnessOf_16 (pts : Int32) (fd : Nat → Int32) (fh : Nat → Int32) (d : Int32) (n_7 : Nat) (i : Nat) (k : Int32) (gd : Int32) (gh : Int32) (v_3 : Int32) (v_4 : Int32) (v_5 : Int32) (v_11 : Int32) (v_12 : Int32) (v_13 : Int32) (hn_7 : 6 - i < n_7 + 1) (ek : k = nI i) (hi : i ≤ 6) (hrr : hof fd fh pts d (7 - i) i gd gh = hof fd fh pts d 7 0 0 0) (c_1 : ¬ pts ≤ k) (c_2 : ¬ 6 ≤ k) (ev_3 : v_3 = fd k.toNatClampNeg) (ev_4 : v_4 = v_3 - gd) (ev_5 : v_5 = fd k.toNatClampNeg) (c_6 : ¬ v_5 ≤ d) (c_10 : v_4 ≤ 0) (ev_11 : v_11 = fd k.toNatClampNeg) (ev_12 : v_12 = fh k.toNatClampNeg) (ev_13 : v_13 = k + 1) : hof fd fh pts d (7 - (i + 1)) (i + 1) v_11 v_12 = hof fd fh pts d 7 0 0 0 := by
  have hc : k.toNatClampNeg = i := nI_cl ek (by omega)
  rw [hof_s hi] at hrr
  rw [← hrr]
  simp only [hc] at *
  subst_vars
  grind
set_option maxHeartbeats 1000000 in
theorem pf_X0_hardnessOf_17 (pts : Int32) (fd : Nat → Int32) (fh : Nat → Int32) (d : Int32) (n_7 : Nat) (i : Nat) (k : Int32) (gd : Int32) (gh : Int32) (v_3 : Int32) (v_4 : Int32) (v_5 : Int32) (hn_7 : 6 - i < n_7 + 1) (ek : k = nI i) (hi : i ≤ 6) (hrr : hof fd fh pts d (7 - i) i gd gh = hof fd fh pts d 7 0 0 0) (c_1 : ¬ pts ≤ k) (c_2 : ¬ 6 ≤ k) (ev_3 : v_3 = fd k.toNatClampNeg) (ev_4 : v_4 = v_3 - gd) (ev_5 : v_5 = fd k.toNatClampNeg) (c_6 : ¬ v_5 ≤ d) (c_10 : ¬ v_4 ≤ 0) : vp_in k 6 := by
  have := nI_lt6 ek hi (by assumption)
  subst ek
  exact vp_in_nI this (by omega)
set_option maxHeartbeats 1000000 in
theorem pf_X0_hardnessOf_18 (pts : Int32) (fd : Nat → Int32) (fh : Nat → Int32) (d : Int32) (n_7 : Nat) (i : Nat) (k : Int32) (gd : Int32) (gh : Int32) (v_3 : Int32) (v_4 : Int32) (v_5 : Int32) (v_14 : Int32) (v_15 : Int32) (v_16 : Int32) (v_17 : Int32) (hn_7 : 6 - i < n_7 + 1) (ek : k = nI i) (hi : i ≤ 6) (hrr : hof fd fh pts d (7 - i) i gd gh = hof fd fh pts d 7 0 0 0) (c_1 : ¬ pts ≤ k) (c_2 : ¬ 6 ≤ k) (ev_3 : v_3 = fd k.toNatClampNeg) (ev_4 : v_4 = v_3 - gd) (ev_5 : v_5 = fd k.toNatClampNeg) (c_6 : ¬ v_5 ≤ d) (c_10 : ¬ v_4 ≤ 0) (ev_14 : v_14 = fh k.toNatClampNeg) (ev_15 : v_15 = v_14 - gh) (ev_16 : v_16 = d - gd) (ev_17 : v_17 = v_15 * v_16) : ¬ v_4 = 0 := by
  grind
set_option maxHeartbeats 1000000 in
theorem pf_X0_hardnessOf_19 (pts : Int32) (fd : Nat → Int32) (fh : Nat → Int32) (d : Int32) (n_7 : Nat) (i : Nat) (k : Int32) (gd : Int32) (gh : Int32) (v_3 : Int32) (v_4 : Int32) (v_5 : Int32) (v_14 : Int32) (v_15 : Int32) (v_16 : Int32) (v_17 : Int32) (v_18 : Int32) (v_19 : Int32) (hn_7 : 6 - i < n_7 + 1) (ek : k = nI i) (hi : i ≤ 6) (hrr : hof fd fh pts d (7 - i) i gd gh = hof fd fh pts d 7 0 0 0) (c_1 : ¬ pts ≤ k) (c_2 : ¬ 6 ≤ k) (ev_3 : v_3 = fd k.toNatClampNeg) (ev_4 : v_4 = v_3 - gd) (ev_5 : v_5 = fd k.toNatClampNeg) (c_6 : ¬ v_5 ≤ d) (c_10 : ¬ v_4 ≤ 0) (ev_14 : v_14 = fh k.toNatClampNeg) (ev_15 : v_15 = v_14 - gh) (ev_16 : v_16 = d - gd) (ev_17 : v_17 = v_15 * v_16) (ev_18 : v_18 = v_17 / v_4) (ev_19 : v_19 = gh + v_18) : v_19 = hof fd fh pts d 7 0 0 0 := by
  have hc : k.toNatClampNeg = i := nI_cl ek (by omega)
  rw [hof_s hi] at hrr
  rw [← hrr]
  simp only [hc] at *
  subst_vars
  grind
set_option maxHeartbeats 1000000 in
theorem pf_X0_hardnessOf_20   : (0 : Int32) = nI 0 := by
  exact nI_0.symm
set_option maxHeartbeats 1000000 in
theorem pf_X0_hardnessOf_21   : 0 ≤ 6 := by
  omega
set_option maxHeartbeats 1000000 in
theorem pf_X0_hardnessOf_22 (pts : Int32) (fd : Nat → Int32) (fh : Nat → Int32) (d : Int32)  : hof fd fh pts d (7 - 0) 0 (0 : Int32) (0 : Int32) = hof fd fh pts d 7 0 0 0 := by
  rfl
set_option maxHeartbeats 4000000 in
set_option maxRecDepth 100000 in
theorem c_X0_hardnessOf (l : Launch) (D : va_G) (cI cQ : ClassId) (sz : Nat) (h0 : Nat) (a2 : Nat) (a3 : Nat) (a0 : Nat) (a1 : Nat) (a4 : Nat) (a5 : Nat) (bw : Int32) (pts : Int32) (fd : Nat → Int32) (fh : Nat → Int32) (d : Int32) : CtI l yX0_hardnessOf wsX0_hardnessOf 0 0 0 0 [.ref h0, .int d] D [(cI, .int), (cQ, .array .int)] [(h0, .inr (0, [.ref a0, .ref a1, .ref a2, .ref a3, .ref a4, .ref a5, .int bw, .int pts])), (a2, .inl (cI, 6, .inl fd)), (a3, .inl (cI, 6, .inl fh))] sz (fun (r : Int32) (u : Unit) => r = hof fd fh pts d 7 0 0 0) (fun (u : Unit) => [(h0, .inr (0, [.ref a0, .ref a1, .ref a2, .ref a3, .ref a4, .ref a5, .int bw, .int pts])), (a2, .inl (cI, 6, .inl fd)), (a3, .inl (cI, 6, .inl fh))]) := by
  refine Met.ofW (cc := cX0_hardnessOf) (maxL := 7) (ret := (some .int)) (by decide) rfl ?_
  intro p e s m args below meth c s₁ B hml hv
  obtain ⟨rfl, hsz, hP, hK, hD0, hN⟩ := hv
  have hx := B.exec
  have hb := B.bytes
  have hr := B.returns
  have hts := atoms_spec (ws := wsX0_hardnessOf) B.pre
  have hown : s.vm.findClass RX0 = some m.cls := findClass_of_methodNamed B.named
  have hlocks := B.notSynchronized
  subst hsz
  have hD := hD0.self (sz := s.heap.size)
  generalize hAe : va_A [(h0, .inr (0, [.ref a0, .ref a1, .ref a2, .ref a3, .ref a4, .ref a5, .int bw, .int pts])), (a2, .inl (cI, 6, .inl fd)), (a3, .inl (cI, 6, .inl fh))] s.heap.size = A at hD ⊢
  have hA : ∀ q : Nat, s.heap.size ≤ q → A q := fun q h => by rw [← hAe]; exact Or.inr h
  have hS : va_S A s.heap s.heap [] := va_S.rf
  have hl := lv_entry ([.ref h0, .int d]) (n := 7) (Nat.le_of_ble_eq_true rfl)
  rw [lg_entry_eq]
  generalize (lg_sl ([.ref h0, .int d]) ++ List.replicate (7 - (lg_sl ([.ref h0, .int d])).length) Slot.unset).toArray = ls at hl ⊢
  have hl : lv_has ls 7 [(0, .ref h0), (1, .int d)] := hl
  refine W_gen (fun GW hIn hOut => ?_)
  refine hIn _ _ _ _ _ ?_
  have hP0 := hP
  refine lv_iconst (v := 0) hx hb dX0_hardnessOf_0 (by decide) ?_
  refine lv_istore_n (lv' := [(2, .int 0), (0, .ref h0), (1, .int d)]) hx hb dX0_hardnessOf_1 rfl hl (by decide) rfl (fun ls hl => ?_)
  refine lv_iconst (v := 0) hx hb dX0_hardnessOf_2 (by decide) ?_
  refine lv_istore_n (lv' := [(3, .int 0), (2, .int 0), (0, .ref h0), (1, .int d)]) hx hb dX0_hardnessOf_3 rfl hl (by decide) rfl (fun ls hl => ?_)
  refine lv_iconst (v := 0) hx hb dX0_hardnessOf_4 (by decide) ?_
  refine lv_istore (lv' := [(4, .int 0), (3, .int 0), (2, .int 0), (0, .ref h0), (1, .int d)]) hx hb dX0_hardnessOf_5 hl (by decide) rfl (fun ls hl => ?_)
  have lp_7 : ∀ (n : Nat) (i : Nat) (k : Int32) (gd : Int32) (gh : Int32) (H : Heap) (locs : List Loc) (ls : Array Slot), 6 - i < n → (k = nI i) → (i ≤ 6) → (hof fd fh pts d (7 - i) i gd gh = hof fd fh pts d 7 0 0 0) → va_P D vwCl [(h0, .inr (0, [.ref a0, .ref a1, .ref a2, .ref a3, .ref a4, .ref a5, .int bw, .int pts])), (a2, .inl (cI, 6, .inl fd)), (a3, .inl (cI, 6, .inl fh))] H → va_D A [(h0, .inr (0, [.ref a0, .ref a1, .ref a2, .ref a3, .ref a4, .ref a5, .int bw, .int pts])), (a2, .inl (cI, 6, .inl fd)), (a3, .inl (cI, 6, .inl fh))] → va_S A s.heap H locs → lv_has ls 7 [(0, .ref h0), (1, .int d), (2, .int gd), (3, .int gh), (4, .int k)] → GW H locs 0 0 (F0 m 7 ls []) := by
    intro n_7
    induction n_7 with
    | zero => intro i k gd gh H locs ls hn_7; exact absurd hn_7 (Nat.not_lt_zero _)
    | succ n_7 ih_7 =>
      intro i k gd gh H locs ls hn_7 ek hi hrr hP hD hS hl
      refine hIn _ _ _ _ _ ?_
      refine lv_iload hx hb dX0_hardnessOf_7 (lv_at hl 4 rfl) ?_
      refine lv_aload_n hx hb dX0_hardnessOf_9 rfl (lv_at hl 0 rfl) ?_
      refine va_get (D := D) (ci := 0) (v := .int pts) (C := RX0) (T := TX0) (N := 8) hx hb hts iw_X0_hardnessOf_0 hown hK hP 0 rfl rfl 7 (by decide) (hts _ wd_X0_hardnessOf_1) (fun _ h9 => h9) rfl dX0_hardnessOf_10 ?_
      refine lv_icmp_ge (tgt := 95) hx hb dX0_hardnessOf_13 (by decide) (fun c_1 => ?_) (fun c_1 => ?_)
      · refine lv_iload_n hx hb dX0_hardnessOf_95 rfl (lv_at hl 3 rfl) ?_
        refine W.widen (k := 0) (n := 0) (Nat.le_of_ble_eq_true rfl) (Nat.le_of_ble_eq_true rfl) ?_
        exact fi_i () hx hb hr hlocks hK (hP.sub [0, 1, 2] rfl) (hD.sub [0, 1, 2] (by decide) rfl) hS (pf_X0_hardnessOf_1 pts fd fh d n_7 i k gd gh hn_7 ek hi hrr c_1) dX0_hardnessOf_96
      · refine lv_iload hx hb dX0_hardnessOf_16 (lv_at hl 4 rfl) ?_
        refine lv_bipush (v := 6) hx hb dX0_hardnessOf_18 (by decide) ?_
        refine lv_icmp_ge (tgt := 95) hx hb dX0_hardnessOf_20 (by decide) (fun c_2 => ?_) (fun c_2 => ?_)
        · refine lv_iload_n hx hb dX0_hardnessOf_95 rfl (lv_at hl 3 rfl) ?_
          refine W.widen (k := 0) (n := 0) (Nat.le_of_ble_eq_true rfl) (Nat.le_of_ble_eq_true rfl) ?_
          exact fi_i () hx hb hr hlocks hK (hP.sub [0, 1, 2] rfl) (hD.sub [0, 1, 2] (by decide) rfl) hS (pf_X0_hardnessOf_2 pts fd fh d n_7 i k gd gh hn_7 ek hi hrr c_1 c_2) dX0_hardnessOf_96
        · refine lv_aload_n hx hb dX0_hardnessOf_23 rfl (lv_at hl 0 rfl) ?_
          refine va_get (D := D) (ci := 0) (v := .ref a2) (C := RX0) (T := TX0) (N := 8) hx hb hts iw_X0_hardnessOf_0 hown hK hP 0 rfl rfl 2 (by decide) (hts _ wd_X0_hardnessOf_2) (fun _ h9 => h9) rfl dX0_hardnessOf_24 ?_
          refine lv_iload hx hb dX0_hardnessOf_27 (lv_at hl 4 rfl) ?_
          refine va_iald hx hb hK hP 1 0 rfl rfl (pf_X0_hardnessOf_3 pts fd fh d n_7 i k gd gh hn_7 ek hi hrr c_1 c_2) dX0_hardnessOf_29 ?_
          refine lv_topi (fun v_3 ev_3 => ?_)
          refine lv_iload_n hx hb dX0_hardnessOf_30 rfl (lv_at hl 2 rfl) ?_
          refine lv_isub hx hb dX0_hardnessOf_31 ?_
          refine lv_topi (fun v_4 ev_4 => ?_)
          refine lv_istore (lv' := [(5, .int v_4), (0, .ref h0), (1, .int d), (2, .int gd), (3, .int gh), (4, .int k)]) hx hb dX0_hardnessOf_32 hl (by decide) rfl (fun ls hl => ?_)
          refine lv_iload_n hx hb dX0_hardnessOf_34 rfl (lv_at hl 2 rfl) ?_
          refine lv_aload_n hx hb dX0_hardnessOf_35 rfl (lv_at hl 1 rfl) ?_
          refine va_get (D := D) (ci := 0) (v := .ref a2) (C := RX0) (T := TX0) (N := 8) hx hb hts iw_X0_hardnessOf_0 hown hK hP 0 rfl rfl 2 (by decide) (hts _ wd_X0_hardnessOf_2) (fun _ h9 => h9) rfl dX0_hardnessOf_36 ?_
          refine lv_iload hx hb dX0_hardnessOf_39 (lv_at hl 5 rfl) ?_
          refine va_iald hx hb hK hP 1 0 rfl rfl (pf_X0_hardnessOf_4 pts fd fh d n_7 i k gd gh v_3 v_4 hn_7 ek hi hrr c_1 c_2 ev_3 ev_4) dX0_hardnessOf_41 ?_
          refine lv_topi (fun v_5 ev_5 => ?_)
          refine lv_icmp_ge (tgt := 73) hx hb dX0_hardnessOf_42 (by decide) (fun c_6 => ?_) (fun c_6 => ?_)
          · refine lv_aload_n hx hb dX0_hardnessOf_73 rfl (lv_at hl 1 rfl) ?_
            refine va_get (D := D) (ci := 0) (v := .ref a2) (C := RX0) (T := TX0) (N := 8) hx hb hts iw_X0_hardnessOf_0 hown hK hP 0 rfl rfl 2 (by decide) (hts _ wd_X0_hardnessOf_2) (fun _ h9 => h9) rfl dX0_hardnessOf_74 ?_
            refine lv_iload hx hb dX0_hardnessOf_77 (lv_at hl 5 rfl) ?_
            refine va_iald hx hb hK hP 1 0 rfl rfl (pf_X0_hardnessOf_5 pts fd fh d n_7 i k gd gh v_3 v_4 v_5 hn_7 ek hi hrr c_1 c_2 ev_3 ev_4 ev_5 c_6) dX0_hardnessOf_79 ?_
            refine lv_topi (fun v_7 ev_7 => ?_)
            refine lv_istore_n (lv' := [(2, .int v_7), (5, .int v_4), (0, .ref h0), (1, .int d), (3, .int gh), (4, .int k)]) hx hb dX0_hardnessOf_80 rfl hl (by decide) rfl (fun ls hl => ?_)
            refine lv_aload_n hx hb dX0_hardnessOf_81 rfl (lv_at hl 2 rfl) ?_
            refine va_get (D := D) (ci := 0) (v := .ref a3) (C := RX0) (T := TX0) (N := 8) hx hb hts iw_X0_hardnessOf_0 hown hK hP 0 rfl rfl 3 (by decide) (hts _ wd_X0_hardnessOf_3) (fun _ h9 => h9) rfl dX0_hardnessOf_82 ?_
            refine lv_iload hx hb dX0_hardnessOf_85 (lv_at hl 5 rfl) ?_
            refine va_iald hx hb hK hP 2 0 rfl rfl (pf_X0_hardnessOf_6 pts fd fh d n_7 i k gd gh v_3 v_4 v_5 v_7 hn_7 ek hi hrr c_1 c_2 ev_3 ev_4 ev_5 c_6 ev_7) dX0_hardnessOf_87 ?_
            refine lv_topi (fun v_8 ev_8 => ?_)
            refine lv_istore_n (lv' := [(3, .int v_8), (2, .int v_7), (5, .int v_4), (0, .ref h0), (1, .int d), (4, .int k)]) hx hb dX0_hardnessOf_88 rfl hl (by decide) rfl (fun ls hl => ?_)
            obtain ⟨v_9, ev_9⟩ : ∃ y : Int32, y = k + 1 := ⟨_, rfl⟩
            refine lv_iinc (v := v_9) (lv' := [(4, .int v_9), (3, .int v_8), (2, .int v_7), (5, .int v_4), (0, .ref h0), (1, .int d)]) hx hb dX0_hardnessOf_89 hl (k := 5) rfl (by rw [ev_9]; rfl) (by decide) rfl (fun ls hl => ?_)
            refine lv_goto (tgt := 7) hx hb dX0_hardnessOf_92 (by decide) ?_
            exact hOut _ _ _ _ _ (ih_7 (i + 1) v_9 v_7 v_8 _ _ _ (pf_X0_hardnessOf_7 pts fd fh d n_7 i k gd gh v_3 v_4 v_5 v_7 v_8 v_9 hn_7 ek hi hrr c_1 c_2 ev_3 ev_4 ev_5 c_6 ev_7 ev_8 ev_9) (pf_X0_hardnessOf_8 pts fd fh d n_7 i k gd gh v_3 v_4 v_5 v_7 v_8 v_9 hn_7 ek hi hrr c_1 c_2 ev_3 ev_4 ev_5 c_6 ev_7 ev_8 ev_9) (pf_X0_hardnessOf_9 pts fd fh d n_7 i k gd gh v_3 v_4 v_5 v_7 v_8 v_9 hn_7 ek hi hrr c_1 c_2 ev_3 ev_4 ev_5 c_6 ev_7 ev_8 ev_9) (pf_X0_hardnessOf_10 pts fd fh d n_7 i k gd gh v_3 v_4 v_5 v_7 v_8 v_9 hn_7 ek hi hrr c_1 c_2 ev_3 ev_4 ev_5 c_6 ev_7 ev_8 ev_9) (hP.sub [0, 1, 2] rfl) (hD.sub [0, 1, 2] (by decide) rfl) hS (lv_sub hl [4, 5, 2, 1, 0] rfl))
          · refine lv_iload hx hb dX0_hardnessOf_45 (lv_at hl 0 rfl) ?_
            refine lv_if_le (tgt := 73) hx hb dX0_hardnessOf_47 (by decide) (fun c_10 => ?_) (fun c_10 => ?_)
            · refine lv_aload_n hx hb dX0_hardnessOf_73 rfl (lv_at hl 1 rfl) ?_
              refine va_get (D := D) (ci := 0) (v := .ref a2) (C := RX0) (T := TX0) (N := 8) hx hb hts iw_X0_hardnessOf_0 hown hK hP 0 rfl rfl 2 (by decide) (hts _ wd_X0_hardnessOf_2) (fun _ h9 => h9) rfl dX0_hardnessOf_74 ?_
              refine lv_iload hx hb dX0_hardnessOf_77 (lv_at hl 5 rfl) ?_
              refine va_iald hx hb hK hP 1 0 rfl rfl (pf_X0_hardnessOf_11 pts fd fh d n_7 i k gd gh v_3 v_4 v_5 hn_7 ek hi hrr c_1 c_2 ev_3 ev_4 ev_5 c_6 c_10) dX0_hardnessOf_79 ?_
              refine lv_topi (fun v_11 ev_11 => ?_)
              refine lv_istore_n (lv' := [(2, .int v_11), (5, .int v_4), (0, .ref h0), (1, .int d), (3, .int gh), (4, .int k)]) hx hb dX0_hardnessOf_80 rfl hl (by decide) rfl (fun ls hl => ?_)
              refine lv_aload_n hx hb dX0_hardnessOf_81 rfl (lv_at hl 2 rfl) ?_
              refine va_get (D := D) (ci := 0) (v := .ref a3) (C := RX0) (T := TX0) (N := 8) hx hb hts iw_X0_hardnessOf_0 hown hK hP 0 rfl rfl 3 (by decide) (hts _ wd_X0_hardnessOf_3) (fun _ h9 => h9) rfl dX0_hardnessOf_82 ?_
              refine lv_iload hx hb dX0_hardnessOf_85 (lv_at hl 5 rfl) ?_
              refine va_iald hx hb hK hP 2 0 rfl rfl (pf_X0_hardnessOf_12 pts fd fh d n_7 i k gd gh v_3 v_4 v_5 v_11 hn_7 ek hi hrr c_1 c_2 ev_3 ev_4 ev_5 c_6 c_10 ev_11) dX0_hardnessOf_87 ?_
              refine lv_topi (fun v_12 ev_12 => ?_)
              refine lv_istore_n (lv' := [(3, .int v_12), (2, .int v_11), (5, .int v_4), (0, .ref h0), (1, .int d), (4, .int k)]) hx hb dX0_hardnessOf_88 rfl hl (by decide) rfl (fun ls hl => ?_)
              obtain ⟨v_13, ev_13⟩ : ∃ y : Int32, y = k + 1 := ⟨_, rfl⟩
              refine lv_iinc (v := v_13) (lv' := [(4, .int v_13), (3, .int v_12), (2, .int v_11), (5, .int v_4), (0, .ref h0), (1, .int d)]) hx hb dX0_hardnessOf_89 hl (k := 5) rfl (by rw [ev_13]; rfl) (by decide) rfl (fun ls hl => ?_)
              refine lv_goto (tgt := 7) hx hb dX0_hardnessOf_92 (by decide) ?_
              exact hOut _ _ _ _ _ (ih_7 (i + 1) v_13 v_11 v_12 _ _ _ (pf_X0_hardnessOf_13 pts fd fh d n_7 i k gd gh v_3 v_4 v_5 v_11 v_12 v_13 hn_7 ek hi hrr c_1 c_2 ev_3 ev_4 ev_5 c_6 c_10 ev_11 ev_12 ev_13) (pf_X0_hardnessOf_14 pts fd fh d n_7 i k gd gh v_3 v_4 v_5 v_11 v_12 v_13 hn_7 ek hi hrr c_1 c_2 ev_3 ev_4 ev_5 c_6 c_10 ev_11 ev_12 ev_13) (pf_X0_hardnessOf_15 pts fd fh d n_7 i k gd gh v_3 v_4 v_5 v_11 v_12 v_13 hn_7 ek hi hrr c_1 c_2 ev_3 ev_4 ev_5 c_6 c_10 ev_11 ev_12 ev_13) (pf_X0_hardnessOf_16 pts fd fh d n_7 i k gd gh v_3 v_4 v_5 v_11 v_12 v_13 hn_7 ek hi hrr c_1 c_2 ev_3 ev_4 ev_5 c_6 c_10 ev_11 ev_12 ev_13) (hP.sub [0, 1, 2] rfl) (hD.sub [0, 1, 2] (by decide) rfl) hS (lv_sub hl [4, 5, 2, 1, 0] rfl))
            · refine lv_aload_n hx hb dX0_hardnessOf_50 rfl (lv_at hl 1 rfl) ?_
              refine va_get (D := D) (ci := 0) (v := .ref a3) (C := RX0) (T := TX0) (N := 8) hx hb hts iw_X0_hardnessOf_0 hown hK hP 0 rfl rfl 3 (by decide) (hts _ wd_X0_hardnessOf_3) (fun _ h9 => h9) rfl dX0_hardnessOf_51 ?_
              refine lv_iload hx hb dX0_hardnessOf_54 (lv_at hl 5 rfl) ?_
              refine va_iald hx hb hK hP 2 0 rfl rfl (pf_X0_hardnessOf_17 pts fd fh d n_7 i k gd gh v_3 v_4 v_5 hn_7 ek hi hrr c_1 c_2 ev_3 ev_4 ev_5 c_6 c_10) dX0_hardnessOf_56 ?_
              refine lv_topi (fun v_14 ev_14 => ?_)
              refine lv_iload_n hx hb dX0_hardnessOf_57 rfl (lv_at hl 4 rfl) ?_
              refine lv_isub hx hb dX0_hardnessOf_58 ?_
              refine lv_topi (fun v_15 ev_15 => ?_)
              refine lv_istore (lv' := [(6, .int v_15), (5, .int v_4), (0, .ref h0), (1, .int d), (2, .int gd), (3, .int gh), (4, .int k)]) hx hb dX0_hardnessOf_59 hl (by decide) rfl (fun ls hl => ?_)
              refine lv_iload_n hx hb dX0_hardnessOf_61 rfl (lv_at hl 5 rfl) ?_
              refine lv_iload hx hb dX0_hardnessOf_62 (lv_at hl 0 rfl) ?_
              refine lv_iload_n hx hb dX0_hardnessOf_64 rfl (lv_at hl 3 rfl) ?_
              refine lv_iload_n hx hb dX0_hardnessOf_65 rfl (lv_at hl 4 rfl) ?_
              refine lv_isub hx hb dX0_hardnessOf_66 ?_
              refine lv_topi (fun v_16 ev_16 => ?_)
              refine lv_imul hx hb dX0_hardnessOf_67 ?_
              refine lv_topi (fun v_17 ev_17 => ?_)
              refine lv_iload hx hb dX0_hardnessOf_68 (lv_at hl 1 rfl) ?_
              refine lv_idiv hx hb dX0_hardnessOf_70 (pf_X0_hardnessOf_18 pts fd fh d n_7 i k gd gh v_3 v_4 v_5 v_14 v_15 v_16 v_17 hn_7 ek hi hrr c_1 c_2 ev_3 ev_4 ev_5 c_6 c_10 ev_14 ev_15 ev_16 ev_17) ?_
              refine lv_topi (fun v_18 ev_18 => ?_)
              refine lv_iadd hx hb dX0_hardnessOf_71 ?_
              refine lv_topi (fun v_19 ev_19 => ?_)
              refine W.widen (k := 0) (n := 0) (Nat.le_of_ble_eq_true rfl) (Nat.le_of_ble_eq_true rfl) ?_
              exact fi_i () hx hb hr hlocks hK (hP.sub [0, 1, 2] rfl) (hD.sub [0, 1, 2] (by decide) rfl) hS (pf_X0_hardnessOf_19 pts fd fh d n_7 i k gd gh v_3 v_4 v_5 v_14 v_15 v_16 v_17 v_18 v_19 hn_7 ek hi hrr c_1 c_2 ev_3 ev_4 ev_5 c_6 c_10 ev_14 ev_15 ev_16 ev_17 ev_18 ev_19) dX0_hardnessOf_72
  exact hOut _ _ _ _ _ (lp_7 (6 - 0 + 1) 0 0 0 0 _ _ _ (Nat.lt_succ_self _) (pf_X0_hardnessOf_20) (pf_X0_hardnessOf_21) (pf_X0_hardnessOf_22 pts fd fh d) (hP.sub [0, 1, 2] rfl) (hD.sub [0, 1, 2] (by decide) rfl) hS (lv_sub hl [3, 4, 2, 1, 0] rfl))

theorem iw_X0_hardnessOn_0 : ∀ w ∈ wsX00, w ∈ wsX0_hardnessOn := fun w h => (List.mem_cons_of_mem _ (List.mem_append_right _ h))
theorem wd_X0_hardnessOn_1 : (.fieldLink RX0 24 "PourPlan$Curing" "degreesAhead" "[I" : Cond) ∈ wsX0_hardnessOn := List.mem_of_getElem? (i := 1) rfl
set_option maxHeartbeats 1000000 in
theorem pf_X0_hardnessOn_1 (pts : Int32) (fd : Nat → Int32) (fh : Nat → Int32) (fg : Nat → Int32) (po : Int32) (day : Int32) (c_1 : po < 0) : (-1 : Int32) = hon fd fh fg pts po day := by
  grind [hon]
set_option maxHeartbeats 1000000 in
theorem pf_X0_hardnessOn_2 (pts : Int32) (fd : Nat → Int32) (fh : Nat → Int32) (fg : Nat → Int32) (po : Int32) (day : Int32) (c_1 : ¬ po < 0) (c_2 : day < po) : (-1 : Int32) = hon fd fh fg pts po day := by
  grind [hon]
set_option maxHeartbeats 1000000 in
theorem pf_X0_hardnessOn_3 (po : Int32) (day : Int32) (c_1 : ¬ po < 0) (c_2 : ¬ day < po) (c_3 : day < 40) : vp_in day 40 := by
  exact vi_in (M := 40) rfl (by grind [hon]) (by grind [hon])
set_option maxHeartbeats 1000000 in
theorem pf_X0_hardnessOn_4 (fg : Nat → Int32) (po : Int32) (day : Int32) (v_4 : Int32) (c_1 : ¬ po < 0) (c_2 : ¬ day < po) (c_3 : day < 40) (ev_4 : v_4 = fg day.toNatClampNeg) : vp_in po 40 := by
  exact vi_in (M := 40) rfl (by grind [hon]) (by grind [hon])
set_option maxHeartbeats 1000000 in
theorem pf_X0_hardnessOn_5 (pts : Int32) (fd : Nat → Int32) (fh : Nat → Int32) (fg : Nat → Int32) (po : Int32) (day : Int32) (v_4 : Int32) (v_5 : Int32) (v_6 : Int32) (r_7 : Int32) (c_1 : ¬ po < 0) (c_2 : ¬ day < po) (c_3 : day < 40) (ev_4 : v_4 = fg day.toNatClampNeg) (ev_5 : v_5 = fg po.toNatClampNeg) (ev_6 : v_6 = v_4 - v_5) (w_8 : r_7 = hof fd fh pts v_6 7 0 0 0) : r_7 = hon fd fh fg pts po day := by
  grind [hon]
set_option maxHeartbeats 1000000 in
theorem pf_X0_hardnessOn_6 (pts : Int32) (fd : Nat → Int32) (fh : Nat → Int32) (fg : Nat → Int32) (po : Int32) (day : Int32) (c_1 : ¬ po < 0) (c_2 : ¬ day < po) (c_3 : ¬ day < 40) : (-1 : Int32) = hon fd fh fg pts po day := by
  grind [hon]
set_option maxHeartbeats 4000000 in
set_option maxRecDepth 100000 in
theorem c_X0_hardnessOn (l : Launch) (D : va_G) (cI cQ : ClassId) (sz : Nat) (h0 : Nat) (a2 : Nat) (a3 : Nat) (a4 : Nat) (a0 : Nat) (a1 : Nat) (a5 : Nat) (bw : Int32) (pts : Int32) (fd : Nat → Int32) (fh : Nat → Int32) (fg : Nat → Int32) (po : Int32) (day : Int32) : CtI l yX0_hardnessOn wsX0_hardnessOn 1 26 0 0 [.ref h0, .int po, .int day] D [(cI, .int), (cQ, .array .int)] [(h0, .inr (0, [.ref a0, .ref a1, .ref a2, .ref a3, .ref a4, .ref a5, .int bw, .int pts])), (a2, .inl (cI, 6, .inl fd)), (a3, .inl (cI, 6, .inl fh)), (a4, .inl (cI, 40, .inl fg))] sz (fun (r : Int32) (u : Unit) => r = hon fd fh fg pts po day) (fun (u : Unit) => [(h0, .inr (0, [.ref a0, .ref a1, .ref a2, .ref a3, .ref a4, .ref a5, .int bw, .int pts])), (a2, .inl (cI, 6, .inl fd)), (a3, .inl (cI, 6, .inl fh)), (a4, .inl (cI, 40, .inl fg))]) := by
  refine Met.ofW (cc := cX0_hardnessOn) (maxL := 3) (ret := (some .int)) (by decide) rfl ?_
  intro p e s m args below meth c s₁ B hml hv
  obtain ⟨rfl, hsz, hP, hK, hD0, hN⟩ := hv
  have hx := B.exec
  have hb := B.bytes
  have hr := B.returns
  have hts := atoms_spec (ws := wsX0_hardnessOn) B.pre
  have hown : s.vm.findClass RX0 = some m.cls := findClass_of_methodNamed B.named
  have hlocks := B.notSynchronized
  subst hsz
  have hD := hD0.self (sz := s.heap.size)
  generalize hAe : va_A [(h0, .inr (0, [.ref a0, .ref a1, .ref a2, .ref a3, .ref a4, .ref a5, .int bw, .int pts])), (a2, .inl (cI, 6, .inl fd)), (a3, .inl (cI, 6, .inl fh)), (a4, .inl (cI, 40, .inl fg))] s.heap.size = A at hD ⊢
  have hA : ∀ q : Nat, s.heap.size ≤ q → A q := fun q h => by rw [← hAe]; exact Or.inr h
  have hS : va_S A s.heap s.heap [] := va_S.rf
  have hl := lv_entry ([.ref h0, .int po, .int day]) (n := 3) (Nat.le_of_ble_eq_true rfl)
  rw [lg_entry_eq]
  generalize (lg_sl ([.ref h0, .int po, .int day]) ++ List.replicate (3 - (lg_sl ([.ref h0, .int po, .int day])).length) Slot.unset).toArray = ls at hl ⊢
  have hl : lv_has ls 3 [(0, .ref h0), (1, .int po), (2, .int day)] := hl
  have hP0 := hP
  refine lv_iload_n hx hb dX0_hardnessOn_0 rfl (lv_at hl 1 rfl) ?_
  refine lv_if_lt (tgt := 15) hx hb dX0_hardnessOn_1 (by decide) (fun c_1 => ?_) (fun c_1 => ?_)
  · refine lv_iconst (v := (-1)) hx hb dX0_hardnessOn_15 (by decide) ?_
    refine W.widen (k := 0) (n := 0) (Nat.le_of_ble_eq_true rfl) (Nat.le_of_ble_eq_true rfl) ?_
    exact fi_i () hx hb hr hlocks hK (hP.sub [0, 1, 2, 3] rfl) (hD.sub [0, 1, 2, 3] (by decide) rfl) hS (pf_X0_hardnessOn_1 pts fd fh fg po day c_1) dX0_hardnessOn_16
  · refine lv_iload_n hx hb dX0_hardnessOn_4 rfl (lv_at hl 2 rfl) ?_
    refine lv_iload_n hx hb dX0_hardnessOn_5 rfl (lv_at hl 1 rfl) ?_
    refine lv_icmp_lt (tgt := 15) hx hb dX0_hardnessOn_6 (by decide) (fun c_2 => ?_) (fun c_2 => ?_)
    · refine lv_iconst (v := (-1)) hx hb dX0_hardnessOn_15 (by decide) ?_
      refine W.widen (k := 0) (n := 0) (Nat.le_of_ble_eq_true rfl) (Nat.le_of_ble_eq_true rfl) ?_
      exact fi_i () hx hb hr hlocks hK (hP.sub [0, 1, 2, 3] rfl) (hD.sub [0, 1, 2, 3] (by decide) rfl) hS (pf_X0_hardnessOn_2 pts fd fh fg po day c_1 c_2) dX0_hardnessOn_16
    · refine lv_iload_n hx hb dX0_hardnessOn_9 rfl (lv_at hl 2 rfl) ?_
      refine lv_bipush (v := 40) hx hb dX0_hardnessOn_10 (by decide) ?_
      refine lv_icmp_lt (tgt := 17) hx hb dX0_hardnessOn_12 (by decide) (fun c_3 => ?_) (fun c_3 => ?_)
      · refine lv_aload_n hx hb dX0_hardnessOn_17 rfl (lv_at hl 0 rfl) ?_
        refine lv_aload_n hx hb dX0_hardnessOn_18 rfl (lv_at hl 0 rfl) ?_
        refine va_get (D := D) (ci := 0) (v := .ref a4) (C := RX0) (T := TX0) (N := 8) hx hb hts iw_X0_hardnessOn_0 hown hK hP 0 rfl rfl 4 (by decide) (hts _ wd_X0_hardnessOn_1) (fun _ h9 => h9) rfl dX0_hardnessOn_19 ?_
        refine lv_iload_n hx hb dX0_hardnessOn_22 rfl (lv_at hl 2 rfl) ?_
        refine va_iald hx hb hK hP 3 0 rfl rfl (pf_X0_hardnessOn_3 po day c_1 c_2 c_3) dX0_hardnessOn_23 ?_
        refine lv_topi (fun v_4 ev_4 => ?_)
        refine lv_aload_n hx hb dX0_hardnessOn_24 rfl (lv_at hl 0 rfl) ?_
        refine va_get (D := D) (ci := 0) (v := .ref a4) (C := RX0) (T := TX0) (N := 8) hx hb hts iw_X0_hardnessOn_0 hown hK hP 0 rfl rfl 4 (by decide) (hts _ wd_X0_hardnessOn_1) (fun _ h9 => h9) rfl dX0_hardnessOn_25 ?_
        refine lv_iload_n hx hb dX0_hardnessOn_28 rfl (lv_at hl 1 rfl) ?_
        refine va_iald hx hb hK hP 3 0 rfl rfl (pf_X0_hardnessOn_4 fg po day v_4 c_1 c_2 c_3 ev_4) dX0_hardnessOn_29 ?_
        refine lv_topi (fun v_5 ev_5 => ?_)
        refine lv_isub hx hb dX0_hardnessOn_30 ?_
        refine lv_topi (fun v_6 ev_6 => ?_)
        refine cc_i (wc := [(h0, .inr (0, [.ref a0, .ref a1, .ref a2, .ref a3, .ref a4, .ref a5, .int bw, .int pts])), (a2, .inl (cI, 6, .inl fd)), (a3, .inl (cI, 6, .inl fh))]) (wr := [(a4, .inl (cI, 40, .inl fg))]) (va_runV (As := [.int v_6]) (rest := []) ⟨hx, hb, hml, hown, hts⟩ (c_X0_hardnessOf l D cI cQ s.heap.size h0 a2 a3 a0 a1 a4 a5 bw pts fd fh v_6 ) (cwV 1 hts gX0_hardnessOn_X0_hardnessOf rfl rfl rfl (by decide +kernel) ⟨Nat.le_of_ble_eq_true rfl, Nat.le_of_ble_eq_true rfl⟩) (preV (wc := [(h0, .inr (0, [.ref a0, .ref a1, .ref a2, .ref a3, .ref a4, .ref a5, .int bw, .int pts])), (a2, .inl (cI, 6, .inl fd)), (a3, .inl (cI, 6, .inl fh))]) (ci := 0) (q0 := 0) hK hP hD hN [0, 1, 2] rfl (by decide) rfl rfl) rfl rfl hl.1 rfl (lv_room (Nat.le_of_ble_eq_true rfl)) dX0_hardnessOn_31 ⟨Nat.le_of_ble_eq_true rfl, Nat.le_of_ble_eq_true rfl⟩) hP hD hS hA [0, 1, 2] [3] rfl rfl (by decide) (by decide) (fun r_7 u H locs w_8 hP hD hS => ?_)
        have hP : va_P D vwCl [(a4, .inl (cI, 40, .inl fg)), (h0, .inr (0, [.ref a0, .ref a1, .ref a2, .ref a3, .ref a4, .ref a5, .int bw, .int pts])), (a2, .inl (cI, 6, .inl fd)), (a3, .inl (cI, 6, .inl fh))] H := hP
        have hD : va_D A [(a4, .inl (cI, 40, .inl fg)), (h0, .inr (0, [.ref a0, .ref a1, .ref a2, .ref a3, .ref a4, .ref a5, .int bw, .int pts])), (a2, .inl (cI, 6, .inl fd)), (a3, .inl (cI, 6, .inl fh))] := hD
        have w_8 : r_7 = hof fd fh pts v_6 7 0 0 0 := w_8
        refine W.widen (k := 0) (n := 0) (Nat.le_of_ble_eq_true rfl) (Nat.le_of_ble_eq_true rfl) ?_
        exact fi_i () hx hb hr hlocks hK (hP.sub [1, 2, 3, 0] rfl) (hD.sub [1, 2, 3, 0] (by decide) rfl) hS (pf_X0_hardnessOn_5 pts fd fh fg po day v_4 v_5 v_6 r_7 c_1 c_2 c_3 ev_4 ev_5 ev_6 w_8) dX0_hardnessOn_34
      · refine lv_iconst (v := (-1)) hx hb dX0_hardnessOn_15 (by decide) ?_
        refine W.widen (k := 0) (n := 0) (Nat.le_of_ble_eq_true rfl) (Nat.le_of_ble_eq_true rfl) ?_
        exact fi_i () hx hb hr hlocks hK (hP.sub [0, 1, 2, 3] rfl) (hD.sub [0, 1, 2, 3] (by decide) rfl) hS (pf_X0_hardnessOn_6 pts fd fh fg po day c_1 c_2 c_3) dX0_hardnessOn_16

theorem iw_X0_stripDayFor_0 : ∀ w ∈ wsX00, w ∈ wsX0_stripDayFor := fun w h => (List.mem_cons_of_mem _ (List.mem_append_right _ h))
theorem wd_X0_stripDayFor_1 : (.fieldLink RX0 27 "PourPlan$Curing" "stripDays" "[I" : Cond) ∈ wsX0_stripDayFor := List.mem_of_getElem? (i := 1) rfl
set_option maxHeartbeats 1000000 in
theorem pf_X0_stripDayFor_1 (fs : Nat → Int32) (po : Int32) (c_1 : po < 0) : (40 : Int32) = sdf fs po := by
  grind [sdf]
set_option maxHeartbeats 1000000 in
theorem pf_X0_stripDayFor_2 (fs : Nat → Int32) (po : Int32) (c_1 : ¬ po < 0) (c_2 : 40 ≤ po) : (40 : Int32) = sdf fs po := by
  grind [sdf]
set_option maxHeartbeats 1000000 in
theorem pf_X0_stripDayFor_3 (po : Int32) (c_1 : ¬ po < 0) (c_2 : ¬ 40 ≤ po) : vp_in po 40 := by
  exact vi_in (M := 40) rfl (by grind [sdf]) (by grind [sdf])
set_option maxHeartbeats 1000000 in
theorem pf_X0_stripDayFor_4 (fs : Nat → Int32) (po : Int32) (v_3 : Int32) (c_1 : ¬ po < 0) (c_2 : ¬ 40 ≤ po) (ev_3 : v_3 = fs po.toNatClampNeg) : v_3 = sdf fs po := by
  grind [sdf]
set_option maxHeartbeats 4000000 in
set_option maxRecDepth 100000 in
theorem c_X0_stripDayFor (l : Launch) (D : va_G) (cI cQ : ClassId) (sz : Nat) (h0 : Nat) (a5 : Nat) (a0 : Nat) (a1 : Nat) (a2 : Nat) (a3 : Nat) (a4 : Nat) (bw : Int32) (pts : Int32) (fs : Nat → Int32) (po : Int32) : CtI l yX0_stripDayFor wsX0_stripDayFor 0 0 0 0 [.ref h0, .int po] D [(cI, .int), (cQ, .array .int)] [(h0, .inr (0, [.ref a0, .ref a1, .ref a2, .ref a3, .ref a4, .ref a5, .int bw, .int pts])), (a5, .inl (cI, 40, .inl fs))] sz (fun (r : Int32) (u : Unit) => r = sdf fs po) (fun (u : Unit) => [(h0, .inr (0, [.ref a0, .ref a1, .ref a2, .ref a3, .ref a4, .ref a5, .int bw, .int pts])), (a5, .inl (cI, 40, .inl fs))]) := by
  refine Met.ofW (cc := cX0_stripDayFor) (maxL := 2) (ret := (some .int)) (by decide) rfl ?_
  intro p e s m args below meth c s₁ B hml hv
  obtain ⟨rfl, hsz, hP, hK, hD0, hN⟩ := hv
  have hx := B.exec
  have hb := B.bytes
  have hr := B.returns
  have hts := atoms_spec (ws := wsX0_stripDayFor) B.pre
  have hown : s.vm.findClass RX0 = some m.cls := findClass_of_methodNamed B.named
  have hlocks := B.notSynchronized
  subst hsz
  have hD := hD0.self (sz := s.heap.size)
  generalize hAe : va_A [(h0, .inr (0, [.ref a0, .ref a1, .ref a2, .ref a3, .ref a4, .ref a5, .int bw, .int pts])), (a5, .inl (cI, 40, .inl fs))] s.heap.size = A at hD ⊢
  have hA : ∀ q : Nat, s.heap.size ≤ q → A q := fun q h => by rw [← hAe]; exact Or.inr h
  have hS : va_S A s.heap s.heap [] := va_S.rf
  have hl := lv_entry ([.ref h0, .int po]) (n := 2) (Nat.le_of_ble_eq_true rfl)
  rw [lg_entry_eq]
  generalize (lg_sl ([.ref h0, .int po]) ++ List.replicate (2 - (lg_sl ([.ref h0, .int po])).length) Slot.unset).toArray = ls at hl ⊢
  have hl : lv_has ls 2 [(0, .ref h0), (1, .int po)] := hl
  have hP0 := hP
  refine lv_iload_n hx hb dX0_stripDayFor_0 rfl (lv_at hl 1 rfl) ?_
  refine lv_if_lt (tgt := 19) hx hb dX0_stripDayFor_1 (by decide) (fun c_1 => ?_) (fun c_1 => ?_)
  · refine lv_bipush (v := 40) hx hb dX0_stripDayFor_19 (by decide) ?_
    refine W.widen (k := 0) (n := 0) (Nat.le_of_ble_eq_true rfl) (Nat.le_of_ble_eq_true rfl) ?_
    exact fi_i () hx hb hr hlocks hK (hP.sub [0, 1] rfl) (hD.sub [0, 1] (by decide) rfl) hS (pf_X0_stripDayFor_1 fs po c_1) dX0_stripDayFor_21
  · refine lv_iload_n hx hb dX0_stripDayFor_4 rfl (lv_at hl 1 rfl) ?_
    refine lv_bipush (v := 40) hx hb dX0_stripDayFor_5 (by decide) ?_
    refine lv_icmp_ge (tgt := 19) hx hb dX0_stripDayFor_7 (by decide) (fun c_2 => ?_) (fun c_2 => ?_)
    · refine lv_bipush (v := 40) hx hb dX0_stripDayFor_19 (by decide) ?_
      refine W.widen (k := 0) (n := 0) (Nat.le_of_ble_eq_true rfl) (Nat.le_of_ble_eq_true rfl) ?_
      exact fi_i () hx hb hr hlocks hK (hP.sub [0, 1] rfl) (hD.sub [0, 1] (by decide) rfl) hS (pf_X0_stripDayFor_2 fs po c_1 c_2) dX0_stripDayFor_21
    · refine lv_aload_n hx hb dX0_stripDayFor_10 rfl (lv_at hl 0 rfl) ?_
      refine va_get (D := D) (ci := 0) (v := .ref a5) (C := RX0) (T := TX0) (N := 8) hx hb hts iw_X0_stripDayFor_0 hown hK hP 0 rfl rfl 5 (by decide) (hts _ wd_X0_stripDayFor_1) (fun _ h9 => h9) rfl dX0_stripDayFor_11 ?_
      refine lv_iload_n hx hb dX0_stripDayFor_14 rfl (lv_at hl 1 rfl) ?_
      refine va_iald hx hb hK hP 1 0 rfl rfl (pf_X0_stripDayFor_3 po c_1 c_2) dX0_stripDayFor_15 ?_
      refine lv_topi (fun v_3 ev_3 => ?_)
      refine lv_goto (tgt := 21) hx hb dX0_stripDayFor_16 (by decide) ?_
      refine W.widen (k := 0) (n := 0) (Nat.le_of_ble_eq_true rfl) (Nat.le_of_ble_eq_true rfl) ?_
      exact fi_i () hx hb hr hlocks hK (hP.sub [0, 1] rfl) (hD.sub [0, 1] (by decide) rfl) hS (pf_X0_stripDayFor_4 fs po v_3 c_1 c_2 ev_3) dX0_stripDayFor_21

theorem iw_X0_renew_0 : ∀ w ∈ wsX00, w ∈ wsX0_renew := fun w h => (List.mem_cons_of_mem _ (List.mem_append_right _ h))
theorem wd_X0_renew_1 : (.fieldLink RX0 24 "PourPlan$Curing" "degreesAhead" "[I" : Cond) ∈ wsX0_renew := List.mem_of_getElem? (i := 1) rfl
theorem wd_X0_renew_2 : (.fieldLink RX0 9 "PourPlan$Curing" "warmth" "[I" : Cond) ∈ wsX0_renew := List.mem_of_getElem? (i := 2) rfl
theorem wd_X0_renew_3 : (.fieldLink RX0 30 "PourPlan$Curing" "baseWarmth" "I" : Cond) ∈ wsX0_renew := List.mem_of_getElem? (i := 3) rfl
theorem wd_X0_renew_4 : (.methodLink RX0 44 Lib.Math.max.name : Cond) ∈ wsX0_renew := List.mem_of_getElem? (i := 4) rfl
theorem wd_X0_renew_5 : (.static Lib.Math.max.name : Cond) ∈ wsX0_renew := List.mem_of_getElem? (i := 5) rfl
theorem wd_X0_renew_6 : (.initialized "java/lang/Math" : Cond) ∈ wsX0_renew := List.mem_of_getElem? (i := 6) rfl
theorem wd_X0_renew_7 : (.code Lib.Math.max.name Lib.Math.max.code 2 (some .int) : Cond) ∈ wsX0_renew := List.mem_of_getElem? (i := 7) rfl
theorem wd_X0_renew_8 : (.fieldLink RX0 15 "PourPlan$Curing" "levels" "[I" : Cond) ∈ wsX0_renew := List.mem_of_getElem? (i := 8) rfl
theorem wd_X0_renew_9 : (.fieldLink RX0 27 "PourPlan$Curing" "stripDays" "[I" : Cond) ∈ wsX0_renew := List.mem_of_getElem? (i := 9) rfl
set_option maxHeartbeats 1000000 in
theorem pf_X0_renew_1 (bw : Int32) (pts : Int32) (fw : Nat → Int32) (fl : Nat → Int32) (fd : Nat → Int32) (fh : Nat → Int32) (fg : Nat → Int32) (fs : Nat → Int32) (n_2 : Nat) (k : Int32) (gg : Nat → Int32) (n_50 : Nat) (k1 : Int32) (k2 : Int32) (gs : Nat → Int32) (hs : okS fs) (hg0 : fg 0 = 0) (hwm : okWm fw) (hb0 : 0 ≤ bw) (hb20 : bw ≤ 20) (hdg : okDeg fd pts) (hth : okTh fh pts) (hn_2 : 40 - k.toNatClampNeg < n_2 + 1) (hk1 : 1 ≤ k) (hk2 : k ≤ 40) (hgg : ∀ d : Nat, d < k.toNatClampNeg → gg d = pS fw bw d) (c_1 : 40 ≤ k) (hn_50 : 40 - k2.toNatClampNeg < n_50 + 1) (hk3 : 0 ≤ k2) (hk4 : k2 ≤ 40) (hk5 : 0 ≤ k1) (hk7 : k1 ≤ 40) (hgs : okS gs) (hfs : ∀ j : Nat, j < k2.toNatClampNeg → gs j = stF fw bw fd fh pts (fl 0) j) (hpp : ∀ d : Nat, k2.toNatClampNeg < d → d < k1.toNatClampNeg → hdF fw bw fd fh pts k2.toNatClampNeg d < fl 0) (c_2 : 40 ≤ k2) : okS gs := by
  exact hgs
set_option maxHeartbeats 1000000 in
theorem pf_X0_renew_2 (bw : Int32) (pts : Int32) (fw : Nat → Int32) (fl : Nat → Int32) (fd : Nat → Int32) (fh : Nat → Int32) (fg : Nat → Int32) (fs : Nat → Int32) (n_2 : Nat) (k : Int32) (gg : Nat → Int32) (n_50 : Nat) (k1 : Int32) (k2 : Int32) (gs : Nat → Int32) (hs : okS fs) (hg0 : fg 0 = 0) (hwm : okWm fw) (hb0 : 0 ≤ bw) (hb20 : bw ≤ 20) (hdg : okDeg fd pts) (hth : okTh fh pts) (hn_2 : 40 - k.toNatClampNeg < n_2 + 1) (hk1 : 1 ≤ k) (hk2 : k ≤ 40) (hgg : ∀ d : Nat, d < k.toNatClampNeg → gg d = pS fw bw d) (c_1 : 40 ≤ k) (hn_50 : 40 - k2.toNatClampNeg < n_50 + 1) (hk3 : 0 ≤ k2) (hk4 : k2 ≤ 40) (hk5 : 0 ≤ k1) (hk7 : k1 ≤ 40) (hgs : okS gs) (hfs : ∀ j : Nat, j < k2.toNatClampNeg → gs j = stF fw bw fd fh pts (fl 0) j) (hpp : ∀ d : Nat, k2.toNatClampNeg < d → d < k1.toNatClampNeg → hdF fw bw fd fh pts k2.toNatClampNeg d < fl 0) (c_2 : 40 ≤ k2) : okFg fw bw gg := by
  intro d hd
  exact hgg d (ge_cl (M := 40) rfl (by assumption) hd)
set_option maxHeartbeats 1000000 in
theorem pf_X0_renew_3 (bw : Int32) (pts : Int32) (fw : Nat → Int32) (fl : Nat → Int32) (fd : Nat → Int32) (fh : Nat → Int32) (fg : Nat → Int32) (fs : Nat → Int32) (n_2 : Nat) (k : Int32) (gg : Nat → Int32) (n_50 : Nat) (k1 : Int32) (k2 : Int32) (gs : Nat → Int32) (hs : okS fs) (hg0 : fg 0 = 0) (hwm : okWm fw) (hb0 : 0 ≤ bw) (hb20 : bw ≤ 20) (hdg : okDeg fd pts) (hth : okTh fh pts) (hn_2 : 40 - k.toNatClampNeg < n_2 + 1) (hk1 : 1 ≤ k) (hk2 : k ≤ 40) (hgg : ∀ d : Nat, d < k.toNatClampNeg → gg d = pS fw bw d) (c_1 : 40 ≤ k) (hn_50 : 40 - k2.toNatClampNeg < n_50 + 1) (hk3 : 0 ≤ k2) (hk4 : k2 ≤ 40) (hk5 : 0 ≤ k1) (hk7 : k1 ≤ 40) (hgs : okS gs) (hfs : ∀ j : Nat, j < k2.toNatClampNeg → gs j = stF fw bw fd fh pts (fl 0) j) (hpp : ∀ d : Nat, k2.toNatClampNeg < d → d < k1.toNatClampNeg → hdF fw bw fd fh pts k2.toNatClampNeg d < fl 0) (c_2 : 40 ≤ k2) : okFs fw bw fd fh pts (fl 0) gs := by
  intro j hj
  exact hfs j (ge_cl (M := 40) rfl (by assumption) hj)
set_option maxHeartbeats 1000000 in
theorem pf_X0_renew_4 (bw : Int32) (pts : Int32) (fw : Nat → Int32) (fl : Nat → Int32) (fd : Nat → Int32) (fh : Nat → Int32) (fg : Nat → Int32) (fs : Nat → Int32) (n_2 : Nat) (k : Int32) (gg : Nat → Int32) (n_50 : Nat) (k1 : Int32) (k2 : Int32) (gs : Nat → Int32) (v_3 : Int32) (v_4 : Int32) (n_64 : Nat) (k3 : Int32) (hs : okS fs) (hg0 : fg 0 = 0) (hwm : okWm fw) (hb0 : 0 ≤ bw) (hb20 : bw ≤ 20) (hdg : okDeg fd pts) (hth : okTh fh pts) (hn_2 : 40 - k.toNatClampNeg < n_2 + 1) (hk1 : 1 ≤ k) (hk2 : k ≤ 40) (hgg : ∀ d : Nat, d < k.toNatClampNeg → gg d = pS fw bw d) (c_1 : 40 ≤ k) (hn_50 : 40 - k2.toNatClampNeg < n_50 + 1) (hk3 : 0 ≤ k2) (hk4 : k2 ≤ 40) (hk5 : 0 ≤ k1) (hk7 : k1 ≤ 40) (hgs : okS gs) (hfs : ∀ j : Nat, j < k2.toNatClampNeg → gs j = stF fw bw fd fh pts (fl 0) j) (hpp : ∀ d : Nat, k2.toNatClampNeg < d → d < k1.toNatClampNeg → hdF fw bw fd fh pts k2.toNatClampNeg d < fl 0) (c_2 : ¬ 40 ≤ k2) (ev_3 : v_3 = k2 + 1) (ev_4 : v_4 = (if k1 < v_3 then v_3 else k1)) (hn_64 : 40 - k3.toNatClampNeg < n_64 + 1) (hk6 : 0 ≤ k3) (hk8 : k3 ≤ 40) (hk9 : k2 + 1 ≤ k3) (hp3 : ∀ d : Nat, k2.toNatClampNeg < d → d < k3.toNatClampNeg → hdF fw bw fd fh pts k2.toNatClampNeg d < fl 0) (c_5 : 40 ≤ k3) : vp_in k2 40 := by
  exact vi_in (M := 40) rfl (by grind) (by grind)
set_option maxHeartbeats 1000000 in
theorem pf_X0_renew_5 (bw : Int32) (pts : Int32) (fw : Nat → Int32) (fl : Nat → Int32) (fd : Nat → Int32) (fh : Nat → Int32) (fg : Nat → Int32) (fs : Nat → Int32) (n_2 : Nat) (k : Int32) (gg : Nat → Int32) (n_50 : Nat) (k1 : Int32) (k2 : Int32) (gs : Nat → Int32) (v_3 : Int32) (v_4 : Int32) (n_64 : Nat) (k3 : Int32) (v_6 : Int32) (hs : okS fs) (hg0 : fg 0 = 0) (hwm : okWm fw) (hb0 : 0 ≤ bw) (hb20 : bw ≤ 20) (hdg : okDeg fd pts) (hth : okTh fh pts) (hn_2 : 40 - k.toNatClampNeg < n_2 + 1) (hk1 : 1 ≤ k) (hk2 : k ≤ 40) (hgg : ∀ d : Nat, d < k.toNatClampNeg → gg d = pS fw bw d) (c_1 : 40 ≤ k) (hn_50 : 40 - k2.toNatClampNeg < n_50 + 1) (hk3 : 0 ≤ k2) (hk4 : k2 ≤ 40) (hk5 : 0 ≤ k1) (hk7 : k1 ≤ 40) (hgs : okS gs) (hfs : ∀ j : Nat, j < k2.toNatClampNeg → gs j = stF fw bw fd fh pts (fl 0) j) (hpp : ∀ d : Nat, k2.toNatClampNeg < d → d < k1.toNatClampNeg → hdF fw bw fd fh pts k2.toNatClampNeg d < fl 0) (c_2 : ¬ 40 ≤ k2) (ev_3 : v_3 = k2 + 1) (ev_4 : v_4 = (if k1 < v_3 then v_3 else k1)) (hn_64 : 40 - k3.toNatClampNeg < n_64 + 1) (hk6 : 0 ≤ k3) (hk8 : k3 ≤ 40) (hk9 : k2 + 1 ≤ k3) (hp3 : ∀ d : Nat, k2.toNatClampNeg < d → d < k3.toNatClampNeg → hdF fw bw fd fh pts k2.toNatClampNeg d < fl 0) (c_5 : 40 ≤ k3) (ev_6 : v_6 = k2 + 1) : 40 - v_6.toNatClampNeg < n_50 := by
  exact ms_dec (L := 40) (k := k2) (by grind) (show ¬ (40 : Int32) ≤ k2 by grind) (by omega) (by assumption) hn_50
set_option maxHeartbeats 1000000 in
theorem pf_X0_renew_6 (bw : Int32) (pts : Int32) (fw : Nat → Int32) (fl : Nat → Int32) (fd : Nat → Int32) (fh : Nat → Int32) (fg : Nat → Int32) (fs : Nat → Int32) (n_2 : Nat) (k : Int32) (gg : Nat → Int32) (n_50 : Nat) (k1 : Int32) (k2 : Int32) (gs : Nat → Int32) (v_3 : Int32) (v_4 : Int32) (n_64 : Nat) (k3 : Int32) (v_6 : Int32) (hs : okS fs) (hg0 : fg 0 = 0) (hwm : okWm fw) (hb0 : 0 ≤ bw) (hb20 : bw ≤ 20) (hdg : okDeg fd pts) (hth : okTh fh pts) (hn_2 : 40 - k.toNatClampNeg < n_2 + 1) (hk1 : 1 ≤ k) (hk2 : k ≤ 40) (hgg : ∀ d : Nat, d < k.toNatClampNeg → gg d = pS fw bw d) (c_1 : 40 ≤ k) (hn_50 : 40 - k2.toNatClampNeg < n_50 + 1) (hk3 : 0 ≤ k2) (hk4 : k2 ≤ 40) (hk5 : 0 ≤ k1) (hk7 : k1 ≤ 40) (hgs : okS gs) (hfs : ∀ j : Nat, j < k2.toNatClampNeg → gs j = stF fw bw fd fh pts (fl 0) j) (hpp : ∀ d : Nat, k2.toNatClampNeg < d → d < k1.toNatClampNeg → hdF fw bw fd fh pts k2.toNatClampNeg d < fl 0) (c_2 : ¬ 40 ≤ k2) (ev_3 : v_3 = k2 + 1) (ev_4 : v_4 = (if k1 < v_3 then v_3 else k1)) (hn_64 : 40 - k3.toNatClampNeg < n_64 + 1) (hk6 : 0 ≤ k3) (hk8 : k3 ≤ 40) (hk9 : k2 + 1 ≤ k3) (hp3 : ∀ d : Nat, k2.toNatClampNeg < d → d < k3.toNatClampNeg → hdF fw bw fd fh pts k2.toNatClampNeg d < fl 0) (c_5 : 40 ≤ k3) (ev_6 : v_6 = k2 + 1) : 0 ≤ v_6 := by
  grind
set_option maxHeartbeats 1000000 in
theorem pf_X0_renew_7 (bw : Int32) (pts : Int32) (fw : Nat → Int32) (fl : Nat → Int32) (fd : Nat → Int32) (fh : Nat → Int32) (fg : Nat → Int32) (fs : Nat → Int32) (n_2 : Nat) (k : Int32) (gg : Nat → Int32) (n_50 : Nat) (k1 : Int32) (k2 : Int32) (gs : Nat → Int32) (v_3 : Int32) (v_4 : Int32) (n_64 : Nat) (k3 : Int32) (v_6 : Int32) (hs : okS fs) (hg0 : fg 0 = 0) (hwm : okWm fw) (hb0 : 0 ≤ bw) (hb20 : bw ≤ 20) (hdg : okDeg fd pts) (hth : okTh fh pts) (hn_2 : 40 - k.toNatClampNeg < n_2 + 1) (hk1 : 1 ≤ k) (hk2 : k ≤ 40) (hgg : ∀ d : Nat, d < k.toNatClampNeg → gg d = pS fw bw d) (c_1 : 40 ≤ k) (hn_50 : 40 - k2.toNatClampNeg < n_50 + 1) (hk3 : 0 ≤ k2) (hk4 : k2 ≤ 40) (hk5 : 0 ≤ k1) (hk7 : k1 ≤ 40) (hgs : okS gs) (hfs : ∀ j : Nat, j < k2.toNatClampNeg → gs j = stF fw bw fd fh pts (fl 0) j) (hpp : ∀ d : Nat, k2.toNatClampNeg < d → d < k1.toNatClampNeg → hdF fw bw fd fh pts k2.toNatClampNeg d < fl 0) (c_2 : ¬ 40 ≤ k2) (ev_3 : v_3 = k2 + 1) (ev_4 : v_4 = (if k1 < v_3 then v_3 else k1)) (hn_64 : 40 - k3.toNatClampNeg < n_64 + 1) (hk6 : 0 ≤ k3) (hk8 : k3 ≤ 40) (hk9 : k2 + 1 ≤ k3) (hp3 : ∀ d : Nat, k2.toNatClampNeg < d → d < k3.toNatClampNeg → hdF fw bw fd fh pts k2.toNatClampNeg d < fl 0) (c_5 : 40 ≤ k3) (ev_6 : v_6 = k2 + 1) : v_6 ≤ 40 := by
  grind
set_option maxHeartbeats 1000000 in
theorem pf_X0_renew_8 (bw : Int32) (pts : Int32) (fw : Nat → Int32) (fl : Nat → Int32) (fd : Nat → Int32) (fh : Nat → Int32) (fg : Nat → Int32) (fs : Nat → Int32) (n_2 : Nat) (k : Int32) (gg : Nat → Int32) (n_50 : Nat) (k1 : Int32) (k2 : Int32) (gs : Nat → Int32) (v_3 : Int32) (v_4 : Int32) (n_64 : Nat) (k3 : Int32) (v_6 : Int32) (hs : okS fs) (hg0 : fg 0 = 0) (hwm : okWm fw) (hb0 : 0 ≤ bw) (hb20 : bw ≤ 20) (hdg : okDeg fd pts) (hth : okTh fh pts) (hn_2 : 40 - k.toNatClampNeg < n_2 + 1) (hk1 : 1 ≤ k) (hk2 : k ≤ 40) (hgg : ∀ d : Nat, d < k.toNatClampNeg → gg d = pS fw bw d) (c_1 : 40 ≤ k) (hn_50 : 40 - k2.toNatClampNeg < n_50 + 1) (hk3 : 0 ≤ k2) (hk4 : k2 ≤ 40) (hk5 : 0 ≤ k1) (hk7 : k1 ≤ 40) (hgs : okS gs) (hfs : ∀ j : Nat, j < k2.toNatClampNeg → gs j = stF fw bw fd fh pts (fl 0) j) (hpp : ∀ d : Nat, k2.toNatClampNeg < d → d < k1.toNatClampNeg → hdF fw bw fd fh pts k2.toNatClampNeg d < fl 0) (c_2 : ¬ 40 ≤ k2) (ev_3 : v_3 = k2 + 1) (ev_4 : v_4 = (if k1 < v_3 then v_3 else k1)) (hn_64 : 40 - k3.toNatClampNeg < n_64 + 1) (hk6 : 0 ≤ k3) (hk8 : k3 ≤ 40) (hk9 : k2 + 1 ≤ k3) (hp3 : ∀ d : Nat, k2.toNatClampNeg < d → d < k3.toNatClampNeg → hdF fw bw fd fh pts k2.toNatClampNeg d < fl 0) (c_5 : 40 ≤ k3) (ev_6 : v_6 = k2 + 1) : 0 ≤ k3 := by
  grind
set_option maxHeartbeats 1000000 in
theorem pf_X0_renew_9 (bw : Int32) (pts : Int32) (fw : Nat → Int32) (fl : Nat → Int32) (fd : Nat → Int32) (fh : Nat → Int32) (fg : Nat → Int32) (fs : Nat → Int32) (n_2 : Nat) (k : Int32) (gg : Nat → Int32) (n_50 : Nat) (k1 : Int32) (k2 : Int32) (gs : Nat → Int32) (v_3 : Int32) (v_4 : Int32) (n_64 : Nat) (k3 : Int32) (v_6 : Int32) (hs : okS fs) (hg0 : fg 0 = 0) (hwm : okWm fw) (hb0 : 0 ≤ bw) (hb20 : bw ≤ 20) (hdg : okDeg fd pts) (hth : okTh fh pts) (hn_2 : 40 - k.toNatClampNeg < n_2 + 1) (hk1 : 1 ≤ k) (hk2 : k ≤ 40) (hgg : ∀ d : Nat, d < k.toNatClampNeg → gg d = pS fw bw d) (c_1 : 40 ≤ k) (hn_50 : 40 - k2.toNatClampNeg < n_50 + 1) (hk3 : 0 ≤ k2) (hk4 : k2 ≤ 40) (hk5 : 0 ≤ k1) (hk7 : k1 ≤ 40) (hgs : okS gs) (hfs : ∀ j : Nat, j < k2.toNatClampNeg → gs j = stF fw bw fd fh pts (fl 0) j) (hpp : ∀ d : Nat, k2.toNatClampNeg < d → d < k1.toNatClampNeg → hdF fw bw fd fh pts k2.toNatClampNeg d < fl 0) (c_2 : ¬ 40 ≤ k2) (ev_3 : v_3 = k2 + 1) (ev_4 : v_4 = (if k1 < v_3 then v_3 else k1)) (hn_64 : 40 - k3.toNatClampNeg < n_64 + 1) (hk6 : 0 ≤ k3) (hk8 : k3 ≤ 40) (hk9 : k2 + 1 ≤ k3) (hp3 : ∀ d : Nat, k2.toNatClampNeg < d → d < k3.toNatClampNeg → hdF fw bw fd fh pts k2.toNatClampNeg d < fl 0) (c_5 : 40 ≤ k3) (ev_6 : v_6 = k2 + 1) : k3 ≤ 40 := by
  grind
set_option maxHeartbeats 1000000 in
theorem pf_X0_renew_10 (bw : Int32) (pts : Int32) (fw : Nat → Int32) (fl : Nat → Int32) (fd : Nat → Int32) (fh : Nat → Int32) (fg : Nat → Int32) (fs : Nat → Int32) (n_2 : Nat) (k : Int32) (gg : Nat → Int32) (n_50 : Nat) (k1 : Int32) (k2 : Int32) (gs : Nat → Int32) (v_3 : Int32) (v_4 : Int32) (n_64 : Nat) (k3 : Int32) (v_6 : Int32) (hs : okS fs) (hg0 : fg 0 = 0) (hwm : okWm fw) (hb0 : 0 ≤ bw) (hb20 : bw ≤ 20) (hdg : okDeg fd pts) (hth : okTh fh pts) (hn_2 : 40 - k.toNatClampNeg < n_2 + 1) (hk1 : 1 ≤ k) (hk2 : k ≤ 40) (hgg : ∀ d : Nat, d < k.toNatClampNeg → gg d = pS fw bw d) (c_1 : 40 ≤ k) (hn_50 : 40 - k2.toNatClampNeg < n_50 + 1) (hk3 : 0 ≤ k2) (hk4 : k2 ≤ 40) (hk5 : 0 ≤ k1) (hk7 : k1 ≤ 40) (hgs : okS gs) (hfs : ∀ j : Nat, j < k2.toNatClampNeg → gs j = stF fw bw fd fh pts (fl 0) j) (hpp : ∀ d : Nat, k2.toNatClampNeg < d → d < k1.toNatClampNeg → hdF fw bw fd fh pts k2.toNatClampNeg d < fl 0) (c_2 : ¬ 40 ≤ k2) (ev_3 : v_3 = k2 + 1) (ev_4 : v_4 = (if k1 < v_3 then v_3 else k1)) (hn_64 : 40 - k3.toNatClampNeg < n_64 + 1) (hk6 : 0 ≤ k3) (hk8 : k3 ≤ 40) (hk9 : k2 + 1 ≤ k3) (hp3 : ∀ d : Nat, k2.toNatClampNeg < d → d < k3.toNatClampNeg → hdF fw bw fd fh pts k2.toNatClampNeg d < fl 0) (c_5 : 40 ≤ k3) (ev_6 : v_6 = k2 + 1) : okS (upd gs k2.toNatClampNeg k3) := by
  exact okS_upd hgs hk8
set_option maxHeartbeats 1000000 in
theorem pf_X0_renew_11 (bw : Int32) (pts : Int32) (fw : Nat → Int32) (fl : Nat → Int32) (fd : Nat → Int32) (fh : Nat → Int32) (fg : Nat → Int32) (fs : Nat → Int32) (n_2 : Nat) (k : Int32) (gg : Nat → Int32) (n_50 : Nat) (k1 : Int32) (k2 : Int32) (gs : Nat → Int32) (v_3 : Int32) (v_4 : Int32) (n_64 : Nat) (k3 : Int32) (v_6 : Int32) (hs : okS fs) (hg0 : fg 0 = 0) (hwm : okWm fw) (hb0 : 0 ≤ bw) (hb20 : bw ≤ 20) (hdg : okDeg fd pts) (hth : okTh fh pts) (hn_2 : 40 - k.toNatClampNeg < n_2 + 1) (hk1 : 1 ≤ k) (hk2 : k ≤ 40) (hgg : ∀ d : Nat, d < k.toNatClampNeg → gg d = pS fw bw d) (c_1 : 40 ≤ k) (hn_50 : 40 - k2.toNatClampNeg < n_50 + 1) (hk3 : 0 ≤ k2) (hk4 : k2 ≤ 40) (hk5 : 0 ≤ k1) (hk7 : k1 ≤ 40) (hgs : okS gs) (hfs : ∀ j : Nat, j < k2.toNatClampNeg → gs j = stF fw bw fd fh pts (fl 0) j) (hpp : ∀ d : Nat, k2.toNatClampNeg < d → d < k1.toNatClampNeg → hdF fw bw fd fh pts k2.toNatClampNeg d < fl 0) (c_2 : ¬ 40 ≤ k2) (ev_3 : v_3 = k2 + 1) (ev_4 : v_4 = (if k1 < v_3 then v_3 else k1)) (hn_64 : 40 - k3.toNatClampNeg < n_64 + 1) (hk6 : 0 ≤ k3) (hk8 : k3 ≤ 40) (hk9 : k2 + 1 ≤ k3) (hp3 : ∀ d : Nat, k2.toNatClampNeg < d → d < k3.toNatClampNeg → hdF fw bw fd fh pts k2.toNatClampNeg d < fl 0) (c_5 : 40 ≤ k3) (ev_6 : v_6 = k2 + 1) : ∀ j : Nat, j < v_6.toNatClampNeg → (upd gs k2.toNatClampNeg k3) j = stF fw bw fd fh pts (fl 0) j := by
  exact rn_gs hk3 (by grind) (by assumption) (rn_is (fun d hd => hgg d (ge_cl (M := 40) rfl (by assumption) hd)) hk3 hk9 (by grind) hk8 (by grind) hp3) hfs
set_option maxHeartbeats 1000000 in
theorem pf_X0_renew_12 (bw : Int32) (pts : Int32) (fw : Nat → Int32) (fl : Nat → Int32) (fd : Nat → Int32) (fh : Nat → Int32) (fg : Nat → Int32) (fs : Nat → Int32) (n_2 : Nat) (k : Int32) (gg : Nat → Int32) (n_50 : Nat) (k1 : Int32) (k2 : Int32) (gs : Nat → Int32) (v_3 : Int32) (v_4 : Int32) (n_64 : Nat) (k3 : Int32) (v_6 : Int32) (hs : okS fs) (hg0 : fg 0 = 0) (hwm : okWm fw) (hb0 : 0 ≤ bw) (hb20 : bw ≤ 20) (hdg : okDeg fd pts) (hth : okTh fh pts) (hn_2 : 40 - k.toNatClampNeg < n_2 + 1) (hk1 : 1 ≤ k) (hk2 : k ≤ 40) (hgg : ∀ d : Nat, d < k.toNatClampNeg → gg d = pS fw bw d) (c_1 : 40 ≤ k) (hn_50 : 40 - k2.toNatClampNeg < n_50 + 1) (hk3 : 0 ≤ k2) (hk4 : k2 ≤ 40) (hk5 : 0 ≤ k1) (hk7 : k1 ≤ 40) (hgs : okS gs) (hfs : ∀ j : Nat, j < k2.toNatClampNeg → gs j = stF fw bw fd fh pts (fl 0) j) (hpp : ∀ d : Nat, k2.toNatClampNeg < d → d < k1.toNatClampNeg → hdF fw bw fd fh pts k2.toNatClampNeg d < fl 0) (c_2 : ¬ 40 ≤ k2) (ev_3 : v_3 = k2 + 1) (ev_4 : v_4 = (if k1 < v_3 then v_3 else k1)) (hn_64 : 40 - k3.toNatClampNeg < n_64 + 1) (hk6 : 0 ≤ k3) (hk8 : k3 ≤ 40) (hk9 : k2 + 1 ≤ k3) (hp3 : ∀ d : Nat, k2.toNatClampNeg < d → d < k3.toNatClampNeg → hdF fw bw fd fh pts k2.toNatClampNeg d < fl 0) (c_5 : 40 ≤ k3) (ev_6 : v_6 = k2 + 1) : ∀ d : Nat, v_6.toNatClampNeg < d → d < k3.toNatClampNeg → hdF fw bw fd fh pts v_6.toNatClampNeg d < fl 0 := by
  exact rn_nx hwm hb0 hb20 hdg hth hk3 (by grind) hk8 (by assumption) hp3
set_option maxHeartbeats 1000000 in
theorem pf_X0_renew_13 (bw : Int32) (pts : Int32) (fw : Nat → Int32) (fl : Nat → Int32) (fd : Nat → Int32) (fh : Nat → Int32) (fg : Nat → Int32) (fs : Nat → Int32) (n_2 : Nat) (k : Int32) (gg : Nat → Int32) (n_50 : Nat) (k1 : Int32) (k2 : Int32) (gs : Nat → Int32) (v_3 : Int32) (v_4 : Int32) (n_64 : Nat) (k3 : Int32) (r_7 : Int32) (v_10 : Int32) (hs : okS fs) (hg0 : fg 0 = 0) (hwm : okWm fw) (hb0 : 0 ≤ bw) (hb20 : bw ≤ 20) (hdg : okDeg fd pts) (hth : okTh fh pts) (hn_2 : 40 - k.toNatClampNeg < n_2 + 1) (hk1 : 1 ≤ k) (hk2 : k ≤ 40) (hgg : ∀ d : Nat, d < k.toNatClampNeg → gg d = pS fw bw d) (c_1 : 40 ≤ k) (hn_50 : 40 - k2.toNatClampNeg < n_50 + 1) (hk3 : 0 ≤ k2) (hk4 : k2 ≤ 40) (hk5 : 0 ≤ k1) (hk7 : k1 ≤ 40) (hgs : okS gs) (hfs : ∀ j : Nat, j < k2.toNatClampNeg → gs j = stF fw bw fd fh pts (fl 0) j) (hpp : ∀ d : Nat, k2.toNatClampNeg < d → d < k1.toNatClampNeg → hdF fw bw fd fh pts k2.toNatClampNeg d < fl 0) (c_2 : ¬ 40 ≤ k2) (ev_3 : v_3 = k2 + 1) (ev_4 : v_4 = (if k1 < v_3 then v_3 else k1)) (hn_64 : 40 - k3.toNatClampNeg < n_64 + 1) (hk6 : 0 ≤ k3) (hk8 : k3 ≤ 40) (hk9 : k2 + 1 ≤ k3) (hp3 : ∀ d : Nat, k2.toNatClampNeg < d → d < k3.toNatClampNeg → hdF fw bw fd fh pts k2.toNatClampNeg d < fl 0) (c_5 : ¬ 40 ≤ k3) (w_8 : r_7 = hon fd fh gg pts k2 k3) (ev_10 : v_10 = fl 0) (c_11 : v_10 ≤ r_7) : vp_in k2 40 := by
  exact vi_in (M := 40) rfl (by grind) (by grind)
set_option maxHeartbeats 1000000 in
theorem pf_X0_renew_14 (bw : Int32) (pts : Int32) (fw : Nat → Int32) (fl : Nat → Int32) (fd : Nat → Int32) (fh : Nat → Int32) (fg : Nat → Int32) (fs : Nat → Int32) (n_2 : Nat) (k : Int32) (gg : Nat → Int32) (n_50 : Nat) (k1 : Int32) (k2 : Int32) (gs : Nat → Int32) (v_3 : Int32) (v_4 : Int32) (n_64 : Nat) (k3 : Int32) (r_7 : Int32) (v_10 : Int32) (v_12 : Int32) (hs : okS fs) (hg0 : fg 0 = 0) (hwm : okWm fw) (hb0 : 0 ≤ bw) (hb20 : bw ≤ 20) (hdg : okDeg fd pts) (hth : okTh fh pts) (hn_2 : 40 - k.toNatClampNeg < n_2 + 1) (hk1 : 1 ≤ k) (hk2 : k ≤ 40) (hgg : ∀ d : Nat, d < k.toNatClampNeg → gg d = pS fw bw d) (c_1 : 40 ≤ k) (hn_50 : 40 - k2.toNatClampNeg < n_50 + 1) (hk3 : 0 ≤ k2) (hk4 : k2 ≤ 40) (hk5 : 0 ≤ k1) (hk7 : k1 ≤ 40) (hgs : okS gs) (hfs : ∀ j : Nat, j < k2.toNatClampNeg → gs j = stF fw bw fd fh pts (fl 0) j) (hpp : ∀ d : Nat, k2.toNatClampNeg < d → d < k1.toNatClampNeg → hdF fw bw fd fh pts k2.toNatClampNeg d < fl 0) (c_2 : ¬ 40 ≤ k2) (ev_3 : v_3 = k2 + 1) (ev_4 : v_4 = (if k1 < v_3 then v_3 else k1)) (hn_64 : 40 - k3.toNatClampNeg < n_64 + 1) (hk6 : 0 ≤ k3) (hk8 : k3 ≤ 40) (hk9 : k2 + 1 ≤ k3) (hp3 : ∀ d : Nat, k2.toNatClampNeg < d → d < k3.toNatClampNeg → hdF fw bw fd fh pts k2.toNatClampNeg d < fl 0) (c_5 : ¬ 40 ≤ k3) (w_8 : r_7 = hon fd fh gg pts k2 k3) (ev_10 : v_10 = fl 0) (c_11 : v_10 ≤ r_7) (ev_12 : v_12 = k2 + 1) : 40 - v_12.toNatClampNeg < n_50 := by
  exact ms_dec (L := 40) (k := k2) (by grind) (show ¬ (40 : Int32) ≤ k2 by grind) (by omega) (by assumption) hn_50
set_option maxHeartbeats 1000000 in
theorem pf_X0_renew_15 (bw : Int32) (pts : Int32) (fw : Nat → Int32) (fl : Nat → Int32) (fd : Nat → Int32) (fh : Nat → Int32) (fg : Nat → Int32) (fs : Nat → Int32) (n_2 : Nat) (k : Int32) (gg : Nat → Int32) (n_50 : Nat) (k1 : Int32) (k2 : Int32) (gs : Nat → Int32) (v_3 : Int32) (v_4 : Int32) (n_64 : Nat) (k3 : Int32) (r_7 : Int32) (v_10 : Int32) (v_12 : Int32) (hs : okS fs) (hg0 : fg 0 = 0) (hwm : okWm fw) (hb0 : 0 ≤ bw) (hb20 : bw ≤ 20) (hdg : okDeg fd pts) (hth : okTh fh pts) (hn_2 : 40 - k.toNatClampNeg < n_2 + 1) (hk1 : 1 ≤ k) (hk2 : k ≤ 40) (hgg : ∀ d : Nat, d < k.toNatClampNeg → gg d = pS fw bw d) (c_1 : 40 ≤ k) (hn_50 : 40 - k2.toNatClampNeg < n_50 + 1) (hk3 : 0 ≤ k2) (hk4 : k2 ≤ 40) (hk5 : 0 ≤ k1) (hk7 : k1 ≤ 40) (hgs : okS gs) (hfs : ∀ j : Nat, j < k2.toNatClampNeg → gs j = stF fw bw fd fh pts (fl 0) j) (hpp : ∀ d : Nat, k2.toNatClampNeg < d → d < k1.toNatClampNeg → hdF fw bw fd fh pts k2.toNatClampNeg d < fl 0) (c_2 : ¬ 40 ≤ k2) (ev_3 : v_3 = k2 + 1) (ev_4 : v_4 = (if k1 < v_3 then v_3 else k1)) (hn_64 : 40 - k3.toNatClampNeg < n_64 + 1) (hk6 : 0 ≤ k3) (hk8 : k3 ≤ 40) (hk9 : k2 + 1 ≤ k3) (hp3 : ∀ d : Nat, k2.toNatClampNeg < d → d < k3.toNatClampNeg → hdF fw bw fd fh pts k2.toNatClampNeg d < fl 0) (c_5 : ¬ 40 ≤ k3) (w_8 : r_7 = hon fd fh gg pts k2 k3) (ev_10 : v_10 = fl 0) (c_11 : v_10 ≤ r_7) (ev_12 : v_12 = k2 + 1) : 0 ≤ v_12 := by
  grind
set_option maxHeartbeats 1000000 in
theorem pf_X0_renew_16 (bw : Int32) (pts : Int32) (fw : Nat → Int32) (fl : Nat → Int32) (fd : Nat → Int32) (fh : Nat → Int32) (fg : Nat → Int32) (fs : Nat → Int32) (n_2 : Nat) (k : Int32) (gg : Nat → Int32) (n_50 : Nat) (k1 : Int32) (k2 : Int32) (gs : Nat → Int32) (v_3 : Int32) (v_4 : Int32) (n_64 : Nat) (k3 : Int32) (r_7 : Int32) (v_10 : Int32) (v_12 : Int32) (hs : okS fs) (hg0 : fg 0 = 0) (hwm : okWm fw) (hb0 : 0 ≤ bw) (hb20 : bw ≤ 20) (hdg : okDeg fd pts) (hth : okTh fh pts) (hn_2 : 40 - k.toNatClampNeg < n_2 + 1) (hk1 : 1 ≤ k) (hk2 : k ≤ 40) (hgg : ∀ d : Nat, d < k.toNatClampNeg → gg d = pS fw bw d) (c_1 : 40 ≤ k) (hn_50 : 40 - k2.toNatClampNeg < n_50 + 1) (hk3 : 0 ≤ k2) (hk4 : k2 ≤ 40) (hk5 : 0 ≤ k1) (hk7 : k1 ≤ 40) (hgs : okS gs) (hfs : ∀ j : Nat, j < k2.toNatClampNeg → gs j = stF fw bw fd fh pts (fl 0) j) (hpp : ∀ d : Nat, k2.toNatClampNeg < d → d < k1.toNatClampNeg → hdF fw bw fd fh pts k2.toNatClampNeg d < fl 0) (c_2 : ¬ 40 ≤ k2) (ev_3 : v_3 = k2 + 1) (ev_4 : v_4 = (if k1 < v_3 then v_3 else k1)) (hn_64 : 40 - k3.toNatClampNeg < n_64 + 1) (hk6 : 0 ≤ k3) (hk8 : k3 ≤ 40) (hk9 : k2 + 1 ≤ k3) (hp3 : ∀ d : Nat, k2.toNatClampNeg < d → d < k3.toNatClampNeg → hdF fw bw fd fh pts k2.toNatClampNeg d < fl 0) (c_5 : ¬ 40 ≤ k3) (w_8 : r_7 = hon fd fh gg pts k2 k3) (ev_10 : v_10 = fl 0) (c_11 : v_10 ≤ r_7) (ev_12 : v_12 = k2 + 1) : v_12 ≤ 40 := by
  grind
set_option maxHeartbeats 1000000 in
theorem pf_X0_renew_17 (bw : Int32) (pts : Int32) (fw : Nat → Int32) (fl : Nat → Int32) (fd : Nat → Int32) (fh : Nat → Int32) (fg : Nat → Int32) (fs : Nat → Int32) (n_2 : Nat) (k : Int32) (gg : Nat → Int32) (n_50 : Nat) (k1 : Int32) (k2 : Int32) (gs : Nat → Int32) (v_3 : Int32) (v_4 : Int32) (n_64 : Nat) (k3 : Int32) (r_7 : Int32) (v_10 : Int32) (v_12 : Int32) (hs : okS fs) (hg0 : fg 0 = 0) (hwm : okWm fw) (hb0 : 0 ≤ bw) (hb20 : bw ≤ 20) (hdg : okDeg fd pts) (hth : okTh fh pts) (hn_2 : 40 - k.toNatClampNeg < n_2 + 1) (hk1 : 1 ≤ k) (hk2 : k ≤ 40) (hgg : ∀ d : Nat, d < k.toNatClampNeg → gg d = pS fw bw d) (c_1 : 40 ≤ k) (hn_50 : 40 - k2.toNatClampNeg < n_50 + 1) (hk3 : 0 ≤ k2) (hk4 : k2 ≤ 40) (hk5 : 0 ≤ k1) (hk7 : k1 ≤ 40) (hgs : okS gs) (hfs : ∀ j : Nat, j < k2.toNatClampNeg → gs j = stF fw bw fd fh pts (fl 0) j) (hpp : ∀ d : Nat, k2.toNatClampNeg < d → d < k1.toNatClampNeg → hdF fw bw fd fh pts k2.toNatClampNeg d < fl 0) (c_2 : ¬ 40 ≤ k2) (ev_3 : v_3 = k2 + 1) (ev_4 : v_4 = (if k1 < v_3 then v_3 else k1)) (hn_64 : 40 - k3.toNatClampNeg < n_64 + 1) (hk6 : 0 ≤ k3) (hk8 : k3 ≤ 40) (hk9 : k2 + 1 ≤ k3) (hp3 : ∀ d : Nat, k2.toNatClampNeg < d → d < k3.toNatClampNeg → hdF fw bw fd fh pts k2.toNatClampNeg d < fl 0) (c_5 : ¬ 40 ≤ k3) (w_8 : r_7 = hon fd fh gg pts k2 k3) (ev_10 : v_10 = fl 0) (c_11 : v_10 ≤ r_7) (ev_12 : v_12 = k2 + 1) : 0 ≤ k3 := by
  grind
set_option maxHeartbeats 1000000 in
theorem pf_X0_renew_18 (bw : Int32) (pts : Int32) (fw : Nat → Int32) (fl : Nat → Int32) (fd : Nat → Int32) (fh : Nat → Int32) (fg : Nat → Int32) (fs : Nat → Int32) (n_2 : Nat) (k : Int32) (gg : Nat → Int32) (n_50 : Nat) (k1 : Int32) (k2 : Int32) (gs : Nat → Int32) (v_3 : Int32) (v_4 : Int32) (n_64 : Nat) (k3 : Int32) (r_7 : Int32) (v_10 : Int32) (v_12 : Int32) (hs : okS fs) (hg0 : fg 0 = 0) (hwm : okWm fw) (hb0 : 0 ≤ bw) (hb20 : bw ≤ 20) (hdg : okDeg fd pts) (hth : okTh fh pts) (hn_2 : 40 - k.toNatClampNeg < n_2 + 1) (hk1 : 1 ≤ k) (hk2 : k ≤ 40) (hgg : ∀ d : Nat, d < k.toNatClampNeg → gg d = pS fw bw d) (c_1 : 40 ≤ k) (hn_50 : 40 - k2.toNatClampNeg < n_50 + 1) (hk3 : 0 ≤ k2) (hk4 : k2 ≤ 40) (hk5 : 0 ≤ k1) (hk7 : k1 ≤ 40) (hgs : okS gs) (hfs : ∀ j : Nat, j < k2.toNatClampNeg → gs j = stF fw bw fd fh pts (fl 0) j) (hpp : ∀ d : Nat, k2.toNatClampNeg < d → d < k1.toNatClampNeg → hdF fw bw fd fh pts k2.toNatClampNeg d < fl 0) (c_2 : ¬ 40 ≤ k2) (ev_3 : v_3 = k2 + 1) (ev_4 : v_4 = (if k1 < v_3 then v_3 else k1)) (hn_64 : 40 - k3.toNatClampNeg < n_64 + 1) (hk6 : 0 ≤ k3) (hk8 : k3 ≤ 40) (hk9 : k2 + 1 ≤ k3) (hp3 : ∀ d : Nat, k2.toNatClampNeg < d → d < k3.toNatClampNeg → hdF fw bw fd fh pts k2.toNatClampNeg d < fl 0) (c_5 : ¬ 40 ≤ k3) (w_8 : r_7 = hon fd fh gg pts k2 k3) (ev_10 : v_10 = fl 0) (c_11 : v_10 ≤ r_7) (ev_12 : v_12 = k2 + 1) : k3 ≤ 40 := by
  grind
set_option maxHeartbeats 1000000 in
theorem pf_X0_renew_19 (bw : Int32) (pts : Int32) (fw : Nat → Int32) (fl : Nat → Int32) (fd : Nat → Int32) (fh : Nat → Int32) (fg : Nat → Int32) (fs : Nat → Int32) (n_2 : Nat) (k : Int32) (gg : Nat → Int32) (n_50 : Nat) (k1 : Int32) (k2 : Int32) (gs : Nat → Int32) (v_3 : Int32) (v_4 : Int32) (n_64 : Nat) (k3 : Int32) (r_7 : Int32) (v_10 : Int32) (v_12 : Int32) (hs : okS fs) (hg0 : fg 0 = 0) (hwm : okWm fw) (hb0 : 0 ≤ bw) (hb20 : bw ≤ 20) (hdg : okDeg fd pts) (hth : okTh fh pts) (hn_2 : 40 - k.toNatClampNeg < n_2 + 1) (hk1 : 1 ≤ k) (hk2 : k ≤ 40) (hgg : ∀ d : Nat, d < k.toNatClampNeg → gg d = pS fw bw d) (c_1 : 40 ≤ k) (hn_50 : 40 - k2.toNatClampNeg < n_50 + 1) (hk3 : 0 ≤ k2) (hk4 : k2 ≤ 40) (hk5 : 0 ≤ k1) (hk7 : k1 ≤ 40) (hgs : okS gs) (hfs : ∀ j : Nat, j < k2.toNatClampNeg → gs j = stF fw bw fd fh pts (fl 0) j) (hpp : ∀ d : Nat, k2.toNatClampNeg < d → d < k1.toNatClampNeg → hdF fw bw fd fh pts k2.toNatClampNeg d < fl 0) (c_2 : ¬ 40 ≤ k2) (ev_3 : v_3 = k2 + 1) (ev_4 : v_4 = (if k1 < v_3 then v_3 else k1)) (hn_64 : 40 - k3.toNatClampNeg < n_64 + 1) (hk6 : 0 ≤ k3) (hk8 : k3 ≤ 40) (hk9 : k2 + 1 ≤ k3) (hp3 : ∀ d : Nat, k2.toNatClampNeg < d → d < k3.toNatClampNeg → hdF fw bw fd fh pts k2.toNatClampNeg d < fl 0) (c_5 : ¬ 40 ≤ k3) (w_8 : r_7 = hon fd fh gg pts k2 k3) (ev_10 : v_10 = fl 0) (c_11 : v_10 ≤ r_7) (ev_12 : v_12 = k2 + 1) : okS (upd gs k2.toNatClampNeg k3) := by
  exact okS_upd hgs hk8
set_option maxHeartbeats 1000000 in
theorem pf_X0_renew_20 (bw : Int32) (pts : Int32) (fw : Nat → Int32) (fl : Nat → Int32) (fd : Nat → Int32) (fh : Nat → Int32) (fg : Nat → Int32) (fs : Nat → Int32) (n_2 : Nat) (k : Int32) (gg : Nat → Int32) (n_50 : Nat) (k1 : Int32) (k2 : Int32) (gs : Nat → Int32) (v_3 : Int32) (v_4 : Int32) (n_64 : Nat) (k3 : Int32) (r_7 : Int32) (v_10 : Int32) (v_12 : Int32) (hs : okS fs) (hg0 : fg 0 = 0) (hwm : okWm fw) (hb0 : 0 ≤ bw) (hb20 : bw ≤ 20) (hdg : okDeg fd pts) (hth : okTh fh pts) (hn_2 : 40 - k.toNatClampNeg < n_2 + 1) (hk1 : 1 ≤ k) (hk2 : k ≤ 40) (hgg : ∀ d : Nat, d < k.toNatClampNeg → gg d = pS fw bw d) (c_1 : 40 ≤ k) (hn_50 : 40 - k2.toNatClampNeg < n_50 + 1) (hk3 : 0 ≤ k2) (hk4 : k2 ≤ 40) (hk5 : 0 ≤ k1) (hk7 : k1 ≤ 40) (hgs : okS gs) (hfs : ∀ j : Nat, j < k2.toNatClampNeg → gs j = stF fw bw fd fh pts (fl 0) j) (hpp : ∀ d : Nat, k2.toNatClampNeg < d → d < k1.toNatClampNeg → hdF fw bw fd fh pts k2.toNatClampNeg d < fl 0) (c_2 : ¬ 40 ≤ k2) (ev_3 : v_3 = k2 + 1) (ev_4 : v_4 = (if k1 < v_3 then v_3 else k1)) (hn_64 : 40 - k3.toNatClampNeg < n_64 + 1) (hk6 : 0 ≤ k3) (hk8 : k3 ≤ 40) (hk9 : k2 + 1 ≤ k3) (hp3 : ∀ d : Nat, k2.toNatClampNeg < d → d < k3.toNatClampNeg → hdF fw bw fd fh pts k2.toNatClampNeg d < fl 0) (c_5 : ¬ 40 ≤ k3) (w_8 : r_7 = hon fd fh gg pts k2 k3) (ev_10 : v_10 = fl 0) (c_11 : v_10 ≤ r_7) (ev_12 : v_12 = k2 + 1) : ∀ j : Nat, j < v_12.toNatClampNeg → (upd gs k2.toNatClampNeg k3) j = stF fw bw fd fh pts (fl 0) j := by
  exact rn_gs hk3 (by grind) (by assumption) (rn_is (fun d hd => hgg d (ge_cl (M := 40) rfl (by assumption) hd)) hk3 hk9 (by grind) hk8 (by grind) hp3) hfs
set_option maxHeartbeats 1000000 in
theorem pf_X0_renew_21 (bw : Int32) (pts : Int32) (fw : Nat → Int32) (fl : Nat → Int32) (fd : Nat → Int32) (fh : Nat → Int32) (fg : Nat → Int32) (fs : Nat → Int32) (n_2 : Nat) (k : Int32) (gg : Nat → Int32) (n_50 : Nat) (k1 : Int32) (k2 : Int32) (gs : Nat → Int32) (v_3 : Int32) (v_4 : Int32) (n_64 : Nat) (k3 : Int32) (r_7 : Int32) (v_10 : Int32) (v_12 : Int32) (hs : okS fs) (hg0 : fg 0 = 0) (hwm : okWm fw) (hb0 : 0 ≤ bw) (hb20 : bw ≤ 20) (hdg : okDeg fd pts) (hth : okTh fh pts) (hn_2 : 40 - k.toNatClampNeg < n_2 + 1) (hk1 : 1 ≤ k) (hk2 : k ≤ 40) (hgg : ∀ d : Nat, d < k.toNatClampNeg → gg d = pS fw bw d) (c_1 : 40 ≤ k) (hn_50 : 40 - k2.toNatClampNeg < n_50 + 1) (hk3 : 0 ≤ k2) (hk4 : k2 ≤ 40) (hk5 : 0 ≤ k1) (hk7 : k1 ≤ 40) (hgs : okS gs) (hfs : ∀ j : Nat, j < k2.toNatClampNeg → gs j = stF fw bw fd fh pts (fl 0) j) (hpp : ∀ d : Nat, k2.toNatClampNeg < d → d < k1.toNatClampNeg → hdF fw bw fd fh pts k2.toNatClampNeg d < fl 0) (c_2 : ¬ 40 ≤ k2) (ev_3 : v_3 = k2 + 1) (ev_4 : v_4 = (if k1 < v_3 then v_3 else k1)) (hn_64 : 40 - k3.toNatClampNeg < n_64 + 1) (hk6 : 0 ≤ k3) (hk8 : k3 ≤ 40) (hk9 : k2 + 1 ≤ k3) (hp3 : ∀ d : Nat, k2.toNatClampNeg < d → d < k3.toNatClampNeg → hdF fw bw fd fh pts k2.toNatClampNeg d < fl 0) (c_5 : ¬ 40 ≤ k3) (w_8 : r_7 = hon fd fh gg pts k2 k3) (ev_10 : v_10 = fl 0) (c_11 : v_10 ≤ r_7) (ev_12 : v_12 = k2 + 1) : ∀ d : Nat, v_12.toNatClampNeg < d → d < k3.toNatClampNeg → hdF fw bw fd fh pts v_12.toNatClampNeg d < fl 0 := by
  exact rn_nx hwm hb0 hb20 hdg hth hk3 (by grind) hk8 (by assumption) hp3
set_option maxHeartbeats 1000000 in
theorem pf_X0_renew_22 (bw : Int32) (pts : Int32) (fw : Nat → Int32) (fl : Nat → Int32) (fd : Nat → Int32) (fh : Nat → Int32) (fg : Nat → Int32) (fs : Nat → Int32) (n_2 : Nat) (k : Int32) (gg : Nat → Int32) (n_50 : Nat) (k1 : Int32) (k2 : Int32) (gs : Nat → Int32) (v_3 : Int32) (v_4 : Int32) (n_64 : Nat) (k3 : Int32) (r_7 : Int32) (v_10 : Int32) (v_13 : Int32) (hs : okS fs) (hg0 : fg 0 = 0) (hwm : okWm fw) (hb0 : 0 ≤ bw) (hb20 : bw ≤ 20) (hdg : okDeg fd pts) (hth : okTh fh pts) (hn_2 : 40 - k.toNatClampNeg < n_2 + 1) (hk1 : 1 ≤ k) (hk2 : k ≤ 40) (hgg : ∀ d : Nat, d < k.toNatClampNeg → gg d = pS fw bw d) (c_1 : 40 ≤ k) (hn_50 : 40 - k2.toNatClampNeg < n_50 + 1) (hk3 : 0 ≤ k2) (hk4 : k2 ≤ 40) (hk5 : 0 ≤ k1) (hk7 : k1 ≤ 40) (hgs : okS gs) (hfs : ∀ j : Nat, j < k2.toNatClampNeg → gs j = stF fw bw fd fh pts (fl 0) j) (hpp : ∀ d : Nat, k2.toNatClampNeg < d → d < k1.toNatClampNeg → hdF fw bw fd fh pts k2.toNatClampNeg d < fl 0) (c_2 : ¬ 40 ≤ k2) (ev_3 : v_3 = k2 + 1) (ev_4 : v_4 = (if k1 < v_3 then v_3 else k1)) (hn_64 : 40 - k3.toNatClampNeg < n_64 + 1) (hk6 : 0 ≤ k3) (hk8 : k3 ≤ 40) (hk9 : k2 + 1 ≤ k3) (hp3 : ∀ d : Nat, k2.toNatClampNeg < d → d < k3.toNatClampNeg → hdF fw bw fd fh pts k2.toNatClampNeg d < fl 0) (c_5 : ¬ 40 ≤ k3) (w_8 : r_7 = hon fd fh gg pts k2 k3) (ev_10 : v_10 = fl 0) (c_11 : ¬ v_10 ≤ r_7) (ev_13 : v_13 = k3 + 1) : 40 - v_13.toNatClampNeg < n_64 := by
  exact ms_dec (L := 40) (k := k3) (by grind) (show ¬ (40 : Int32) ≤ k3 by grind) (by omega) (by assumption) hn_64
set_option maxHeartbeats 1000000 in
theorem pf_X0_renew_23 (bw : Int32) (pts : Int32) (fw : Nat → Int32) (fl : Nat → Int32) (fd : Nat → Int32) (fh : Nat → Int32) (fg : Nat → Int32) (fs : Nat → Int32) (n_2 : Nat) (k : Int32) (gg : Nat → Int32) (n_50 : Nat) (k1 : Int32) (k2 : Int32) (gs : Nat → Int32) (v_3 : Int32) (v_4 : Int32) (n_64 : Nat) (k3 : Int32) (r_7 : Int32) (v_10 : Int32) (v_13 : Int32) (hs : okS fs) (hg0 : fg 0 = 0) (hwm : okWm fw) (hb0 : 0 ≤ bw) (hb20 : bw ≤ 20) (hdg : okDeg fd pts) (hth : okTh fh pts) (hn_2 : 40 - k.toNatClampNeg < n_2 + 1) (hk1 : 1 ≤ k) (hk2 : k ≤ 40) (hgg : ∀ d : Nat, d < k.toNatClampNeg → gg d = pS fw bw d) (c_1 : 40 ≤ k) (hn_50 : 40 - k2.toNatClampNeg < n_50 + 1) (hk3 : 0 ≤ k2) (hk4 : k2 ≤ 40) (hk5 : 0 ≤ k1) (hk7 : k1 ≤ 40) (hgs : okS gs) (hfs : ∀ j : Nat, j < k2.toNatClampNeg → gs j = stF fw bw fd fh pts (fl 0) j) (hpp : ∀ d : Nat, k2.toNatClampNeg < d → d < k1.toNatClampNeg → hdF fw bw fd fh pts k2.toNatClampNeg d < fl 0) (c_2 : ¬ 40 ≤ k2) (ev_3 : v_3 = k2 + 1) (ev_4 : v_4 = (if k1 < v_3 then v_3 else k1)) (hn_64 : 40 - k3.toNatClampNeg < n_64 + 1) (hk6 : 0 ≤ k3) (hk8 : k3 ≤ 40) (hk9 : k2 + 1 ≤ k3) (hp3 : ∀ d : Nat, k2.toNatClampNeg < d → d < k3.toNatClampNeg → hdF fw bw fd fh pts k2.toNatClampNeg d < fl 0) (c_5 : ¬ 40 ≤ k3) (w_8 : r_7 = hon fd fh gg pts k2 k3) (ev_10 : v_10 = fl 0) (c_11 : ¬ v_10 ≤ r_7) (ev_13 : v_13 = k3 + 1) : 0 ≤ v_13 := by
  grind
set_option maxHeartbeats 1000000 in
theorem pf_X0_renew_24 (bw : Int32) (pts : Int32) (fw : Nat → Int32) (fl : Nat → Int32) (fd : Nat → Int32) (fh : Nat → Int32) (fg : Nat → Int32) (fs : Nat → Int32) (n_2 : Nat) (k : Int32) (gg : Nat → Int32) (n_50 : Nat) (k1 : Int32) (k2 : Int32) (gs : Nat → Int32) (v_3 : Int32) (v_4 : Int32) (n_64 : Nat) (k3 : Int32) (r_7 : Int32) (v_10 : Int32) (v_13 : Int32) (hs : okS fs) (hg0 : fg 0 = 0) (hwm : okWm fw) (hb0 : 0 ≤ bw) (hb20 : bw ≤ 20) (hdg : okDeg fd pts) (hth : okTh fh pts) (hn_2 : 40 - k.toNatClampNeg < n_2 + 1) (hk1 : 1 ≤ k) (hk2 : k ≤ 40) (hgg : ∀ d : Nat, d < k.toNatClampNeg → gg d = pS fw bw d) (c_1 : 40 ≤ k) (hn_50 : 40 - k2.toNatClampNeg < n_50 + 1) (hk3 : 0 ≤ k2) (hk4 : k2 ≤ 40) (hk5 : 0 ≤ k1) (hk7 : k1 ≤ 40) (hgs : okS gs) (hfs : ∀ j : Nat, j < k2.toNatClampNeg → gs j = stF fw bw fd fh pts (fl 0) j) (hpp : ∀ d : Nat, k2.toNatClampNeg < d → d < k1.toNatClampNeg → hdF fw bw fd fh pts k2.toNatClampNeg d < fl 0) (c_2 : ¬ 40 ≤ k2) (ev_3 : v_3 = k2 + 1) (ev_4 : v_4 = (if k1 < v_3 then v_3 else k1)) (hn_64 : 40 - k3.toNatClampNeg < n_64 + 1) (hk6 : 0 ≤ k3) (hk8 : k3 ≤ 40) (hk9 : k2 + 1 ≤ k3) (hp3 : ∀ d : Nat, k2.toNatClampNeg < d → d < k3.toNatClampNeg → hdF fw bw fd fh pts k2.toNatClampNeg d < fl 0) (c_5 : ¬ 40 ≤ k3) (w_8 : r_7 = hon fd fh gg pts k2 k3) (ev_10 : v_10 = fl 0) (c_11 : ¬ v_10 ≤ r_7) (ev_13 : v_13 = k3 + 1) : v_13 ≤ 40 := by
  grind
set_option maxHeartbeats 1000000 in
theorem pf_X0_renew_25 (bw : Int32) (pts : Int32) (fw : Nat → Int32) (fl : Nat → Int32) (fd : Nat → Int32) (fh : Nat → Int32) (fg : Nat → Int32) (fs : Nat → Int32) (n_2 : Nat) (k : Int32) (gg : Nat → Int32) (n_50 : Nat) (k1 : Int32) (k2 : Int32) (gs : Nat → Int32) (v_3 : Int32) (v_4 : Int32) (n_64 : Nat) (k3 : Int32) (r_7 : Int32) (v_10 : Int32) (v_13 : Int32) (hs : okS fs) (hg0 : fg 0 = 0) (hwm : okWm fw) (hb0 : 0 ≤ bw) (hb20 : bw ≤ 20) (hdg : okDeg fd pts) (hth : okTh fh pts) (hn_2 : 40 - k.toNatClampNeg < n_2 + 1) (hk1 : 1 ≤ k) (hk2 : k ≤ 40) (hgg : ∀ d : Nat, d < k.toNatClampNeg → gg d = pS fw bw d) (c_1 : 40 ≤ k) (hn_50 : 40 - k2.toNatClampNeg < n_50 + 1) (hk3 : 0 ≤ k2) (hk4 : k2 ≤ 40) (hk5 : 0 ≤ k1) (hk7 : k1 ≤ 40) (hgs : okS gs) (hfs : ∀ j : Nat, j < k2.toNatClampNeg → gs j = stF fw bw fd fh pts (fl 0) j) (hpp : ∀ d : Nat, k2.toNatClampNeg < d → d < k1.toNatClampNeg → hdF fw bw fd fh pts k2.toNatClampNeg d < fl 0) (c_2 : ¬ 40 ≤ k2) (ev_3 : v_3 = k2 + 1) (ev_4 : v_4 = (if k1 < v_3 then v_3 else k1)) (hn_64 : 40 - k3.toNatClampNeg < n_64 + 1) (hk6 : 0 ≤ k3) (hk8 : k3 ≤ 40) (hk9 : k2 + 1 ≤ k3) (hp3 : ∀ d : Nat, k2.toNatClampNeg < d → d < k3.toNatClampNeg → hdF fw bw fd fh pts k2.toNatClampNeg d < fl 0) (c_5 : ¬ 40 ≤ k3) (w_8 : r_7 = hon fd fh gg pts k2 k3) (ev_10 : v_10 = fl 0) (c_11 : ¬ v_10 ≤ r_7) (ev_13 : v_13 = k3 + 1) : k2 + 1 ≤ v_13 := by
  grind
set_option maxHeartbeats 1000000 in
theorem pf_X0_renew_26 (bw : Int32) (pts : Int32) (fw : Nat → Int32) (fl : Nat → Int32) (fd : Nat → Int32) (fh : Nat → Int32) (fg : Nat → Int32) (fs : Nat → Int32) (n_2 : Nat) (k : Int32) (gg : Nat → Int32) (n_50 : Nat) (k1 : Int32) (k2 : Int32) (gs : Nat → Int32) (v_3 : Int32) (v_4 : Int32) (n_64 : Nat) (k3 : Int32) (r_7 : Int32) (v_10 : Int32) (v_13 : Int32) (hs : okS fs) (hg0 : fg 0 = 0) (hwm : okWm fw) (hb0 : 0 ≤ bw) (hb20 : bw ≤ 20) (hdg : okDeg fd pts) (hth : okTh fh pts) (hn_2 : 40 - k.toNatClampNeg < n_2 + 1) (hk1 : 1 ≤ k) (hk2 : k ≤ 40) (hgg : ∀ d : Nat, d < k.toNatClampNeg → gg d = pS fw bw d) (c_1 : 40 ≤ k) (hn_50 : 40 - k2.toNatClampNeg < n_50 + 1) (hk3 : 0 ≤ k2) (hk4 : k2 ≤ 40) (hk5 : 0 ≤ k1) (hk7 : k1 ≤ 40) (hgs : okS gs) (hfs : ∀ j : Nat, j < k2.toNatClampNeg → gs j = stF fw bw fd fh pts (fl 0) j) (hpp : ∀ d : Nat, k2.toNatClampNeg < d → d < k1.toNatClampNeg → hdF fw bw fd fh pts k2.toNatClampNeg d < fl 0) (c_2 : ¬ 40 ≤ k2) (ev_3 : v_3 = k2 + 1) (ev_4 : v_4 = (if k1 < v_3 then v_3 else k1)) (hn_64 : 40 - k3.toNatClampNeg < n_64 + 1) (hk6 : 0 ≤ k3) (hk8 : k3 ≤ 40) (hk9 : k2 + 1 ≤ k3) (hp3 : ∀ d : Nat, k2.toNatClampNeg < d → d < k3.toNatClampNeg → hdF fw bw fd fh pts k2.toNatClampNeg d < fl 0) (c_5 : ¬ 40 ≤ k3) (w_8 : r_7 = hon fd fh gg pts k2 k3) (ev_10 : v_10 = fl 0) (c_11 : ¬ v_10 ≤ r_7) (ev_13 : v_13 = k3 + 1) : ∀ d : Nat, k2.toNatClampNeg < d → d < v_13.toNatClampNeg → hdF fw bw fd fh pts k2.toNatClampNeg d < fl 0 := by
  exact rn_3 (fun d hd => hgg d (ge_cl (M := 40) rfl (by assumption) hd)) hk3 hk9 (by grind) (by grind) (by assumption) (by assumption) (by grind) hp3
set_option maxHeartbeats 1000000 in
theorem pf_X0_renew_27 (bw : Int32) (pts : Int32) (fw : Nat → Int32) (fl : Nat → Int32) (fd : Nat → Int32) (fh : Nat → Int32) (fg : Nat → Int32) (fs : Nat → Int32) (n_2 : Nat) (k : Int32) (gg : Nat → Int32) (n_50 : Nat) (k1 : Int32) (k2 : Int32) (gs : Nat → Int32) (v_3 : Int32) (v_4 : Int32) (hs : okS fs) (hg0 : fg 0 = 0) (hwm : okWm fw) (hb0 : 0 ≤ bw) (hb20 : bw ≤ 20) (hdg : okDeg fd pts) (hth : okTh fh pts) (hn_2 : 40 - k.toNatClampNeg < n_2 + 1) (hk1 : 1 ≤ k) (hk2 : k ≤ 40) (hgg : ∀ d : Nat, d < k.toNatClampNeg → gg d = pS fw bw d) (c_1 : 40 ≤ k) (hn_50 : 40 - k2.toNatClampNeg < n_50 + 1) (hk3 : 0 ≤ k2) (hk4 : k2 ≤ 40) (hk5 : 0 ≤ k1) (hk7 : k1 ≤ 40) (hgs : okS gs) (hfs : ∀ j : Nat, j < k2.toNatClampNeg → gs j = stF fw bw fd fh pts (fl 0) j) (hpp : ∀ d : Nat, k2.toNatClampNeg < d → d < k1.toNatClampNeg → hdF fw bw fd fh pts k2.toNatClampNeg d < fl 0) (c_2 : ¬ 40 ≤ k2) (ev_3 : v_3 = k2 + 1) (ev_4 : v_4 = (if k1 < v_3 then v_3 else k1)) : 0 ≤ v_4 := by
  grind
set_option maxHeartbeats 1000000 in
theorem pf_X0_renew_28 (bw : Int32) (pts : Int32) (fw : Nat → Int32) (fl : Nat → Int32) (fd : Nat → Int32) (fh : Nat → Int32) (fg : Nat → Int32) (fs : Nat → Int32) (n_2 : Nat) (k : Int32) (gg : Nat → Int32) (n_50 : Nat) (k1 : Int32) (k2 : Int32) (gs : Nat → Int32) (v_3 : Int32) (v_4 : Int32) (hs : okS fs) (hg0 : fg 0 = 0) (hwm : okWm fw) (hb0 : 0 ≤ bw) (hb20 : bw ≤ 20) (hdg : okDeg fd pts) (hth : okTh fh pts) (hn_2 : 40 - k.toNatClampNeg < n_2 + 1) (hk1 : 1 ≤ k) (hk2 : k ≤ 40) (hgg : ∀ d : Nat, d < k.toNatClampNeg → gg d = pS fw bw d) (c_1 : 40 ≤ k) (hn_50 : 40 - k2.toNatClampNeg < n_50 + 1) (hk3 : 0 ≤ k2) (hk4 : k2 ≤ 40) (hk5 : 0 ≤ k1) (hk7 : k1 ≤ 40) (hgs : okS gs) (hfs : ∀ j : Nat, j < k2.toNatClampNeg → gs j = stF fw bw fd fh pts (fl 0) j) (hpp : ∀ d : Nat, k2.toNatClampNeg < d → d < k1.toNatClampNeg → hdF fw bw fd fh pts k2.toNatClampNeg d < fl 0) (c_2 : ¬ 40 ≤ k2) (ev_3 : v_3 = k2 + 1) (ev_4 : v_4 = (if k1 < v_3 then v_3 else k1)) : v_4 ≤ 40 := by
  grind
set_option maxHeartbeats 1000000 in
theorem pf_X0_renew_29 (bw : Int32) (pts : Int32) (fw : Nat → Int32) (fl : Nat → Int32) (fd : Nat → Int32) (fh : Nat → Int32) (fg : Nat → Int32) (fs : Nat → Int32) (n_2 : Nat) (k : Int32) (gg : Nat → Int32) (n_50 : Nat) (k1 : Int32) (k2 : Int32) (gs : Nat → Int32) (v_3 : Int32) (v_4 : Int32) (hs : okS fs) (hg0 : fg 0 = 0) (hwm : okWm fw) (hb0 : 0 ≤ bw) (hb20 : bw ≤ 20) (hdg : okDeg fd pts) (hth : okTh fh pts) (hn_2 : 40 - k.toNatClampNeg < n_2 + 1) (hk1 : 1 ≤ k) (hk2 : k ≤ 40) (hgg : ∀ d : Nat, d < k.toNatClampNeg → gg d = pS fw bw d) (c_1 : 40 ≤ k) (hn_50 : 40 - k2.toNatClampNeg < n_50 + 1) (hk3 : 0 ≤ k2) (hk4 : k2 ≤ 40) (hk5 : 0 ≤ k1) (hk7 : k1 ≤ 40) (hgs : okS gs) (hfs : ∀ j : Nat, j < k2.toNatClampNeg → gs j = stF fw bw fd fh pts (fl 0) j) (hpp : ∀ d : Nat, k2.toNatClampNeg < d → d < k1.toNatClampNeg → hdF fw bw fd fh pts k2.toNatClampNeg d < fl 0) (c_2 : ¬ 40 ≤ k2) (ev_3 : v_3 = k2 + 1) (ev_4 : v_4 = (if k1 < v_3 then v_3 else k1)) : k2 + 1 ≤ v_4 := by
  grind
set_option maxHeartbeats 1000000 in
theorem pf_X0_renew_30 (bw : Int32) (pts : Int32) (fw : Nat → Int32) (fl : Nat → Int32) (fd : Nat → Int32) (fh : Nat → Int32) (fg : Nat → Int32) (fs : Nat → Int32) (n_2 : Nat) (k : Int32) (gg : Nat → Int32) (n_50 : Nat) (k1 : Int32) (k2 : Int32) (gs : Nat → Int32) (v_3 : Int32) (v_4 : Int32) (hs : okS fs) (hg0 : fg 0 = 0) (hwm : okWm fw) (hb0 : 0 ≤ bw) (hb20 : bw ≤ 20) (hdg : okDeg fd pts) (hth : okTh fh pts) (hn_2 : 40 - k.toNatClampNeg < n_2 + 1) (hk1 : 1 ≤ k) (hk2 : k ≤ 40) (hgg : ∀ d : Nat, d < k.toNatClampNeg → gg d = pS fw bw d) (c_1 : 40 ≤ k) (hn_50 : 40 - k2.toNatClampNeg < n_50 + 1) (hk3 : 0 ≤ k2) (hk4 : k2 ≤ 40) (hk5 : 0 ≤ k1) (hk7 : k1 ≤ 40) (hgs : okS gs) (hfs : ∀ j : Nat, j < k2.toNatClampNeg → gs j = stF fw bw fd fh pts (fl 0) j) (hpp : ∀ d : Nat, k2.toNatClampNeg < d → d < k1.toNatClampNeg → hdF fw bw fd fh pts k2.toNatClampNeg d < fl 0) (c_2 : ¬ 40 ≤ k2) (ev_3 : v_3 = k2 + 1) (ev_4 : v_4 = (if k1 < v_3 then v_3 else k1)) : ∀ d : Nat, k2.toNatClampNeg < d → d < v_4.toNatClampNeg → hdF fw bw fd fh pts k2.toNatClampNeg d < fl 0 := by
  exact rn_0 hk3 (by grind) (by assumption) (by assumption) hpp
set_option maxHeartbeats 1000000 in
theorem pf_X0_renew_31 (bw : Int32) (pts : Int32) (fw : Nat → Int32) (fd : Nat → Int32) (fh : Nat → Int32) (fg : Nat → Int32) (fs : Nat → Int32) (n_2 : Nat) (k : Int32) (gg : Nat → Int32) (hs : okS fs) (hg0 : fg 0 = 0) (hwm : okWm fw) (hb0 : 0 ≤ bw) (hb20 : bw ≤ 20) (hdg : okDeg fd pts) (hth : okTh fh pts) (hn_2 : 40 - k.toNatClampNeg < n_2 + 1) (hk1 : 1 ≤ k) (hk2 : k ≤ 40) (hgg : ∀ d : Nat, d < k.toNatClampNeg → gg d = pS fw bw d) (c_1 : 40 ≤ k) : 0 ≤ (0 : Int32) := by
  grind
set_option maxHeartbeats 1000000 in
theorem pf_X0_renew_32 (bw : Int32) (pts : Int32) (fw : Nat → Int32) (fd : Nat → Int32) (fh : Nat → Int32) (fg : Nat → Int32) (fs : Nat → Int32) (n_2 : Nat) (k : Int32) (gg : Nat → Int32) (hs : okS fs) (hg0 : fg 0 = 0) (hwm : okWm fw) (hb0 : 0 ≤ bw) (hb20 : bw ≤ 20) (hdg : okDeg fd pts) (hth : okTh fh pts) (hn_2 : 40 - k.toNatClampNeg < n_2 + 1) (hk1 : 1 ≤ k) (hk2 : k ≤ 40) (hgg : ∀ d : Nat, d < k.toNatClampNeg → gg d = pS fw bw d) (c_1 : 40 ≤ k) : (0 : Int32) ≤ 40 := by
  grind
set_option maxHeartbeats 1000000 in
theorem pf_X0_renew_33 (bw : Int32) (pts : Int32) (fw : Nat → Int32) (fd : Nat → Int32) (fh : Nat → Int32) (fg : Nat → Int32) (fs : Nat → Int32) (n_2 : Nat) (k : Int32) (gg : Nat → Int32) (hs : okS fs) (hg0 : fg 0 = 0) (hwm : okWm fw) (hb0 : 0 ≤ bw) (hb20 : bw ≤ 20) (hdg : okDeg fd pts) (hth : okTh fh pts) (hn_2 : 40 - k.toNatClampNeg < n_2 + 1) (hk1 : 1 ≤ k) (hk2 : k ≤ 40) (hgg : ∀ d : Nat, d < k.toNatClampNeg → gg d = pS fw bw d) (c_1 : 40 ≤ k) : 0 ≤ (0 : Int32) := by
  grind
set_option maxHeartbeats 1000000 in
theorem pf_X0_renew_34 (bw : Int32) (pts : Int32) (fw : Nat → Int32) (fd : Nat → Int32) (fh : Nat → Int32) (fg : Nat → Int32) (fs : Nat → Int32) (n_2 : Nat) (k : Int32) (gg : Nat → Int32) (hs : okS fs) (hg0 : fg 0 = 0) (hwm : okWm fw) (hb0 : 0 ≤ bw) (hb20 : bw ≤ 20) (hdg : okDeg fd pts) (hth : okTh fh pts) (hn_2 : 40 - k.toNatClampNeg < n_2 + 1) (hk1 : 1 ≤ k) (hk2 : k ≤ 40) (hgg : ∀ d : Nat, d < k.toNatClampNeg → gg d = pS fw bw d) (c_1 : 40 ≤ k) : (0 : Int32) ≤ 40 := by
  grind
set_option maxHeartbeats 1000000 in
theorem pf_X0_renew_35 (bw : Int32) (pts : Int32) (fw : Nat → Int32) (fd : Nat → Int32) (fh : Nat → Int32) (fg : Nat → Int32) (fs : Nat → Int32) (n_2 : Nat) (k : Int32) (gg : Nat → Int32) (hs : okS fs) (hg0 : fg 0 = 0) (hwm : okWm fw) (hb0 : 0 ≤ bw) (hb20 : bw ≤ 20) (hdg : okDeg fd pts) (hth : okTh fh pts) (hn_2 : 40 - k.toNatClampNeg < n_2 + 1) (hk1 : 1 ≤ k) (hk2 : k ≤ 40) (hgg : ∀ d : Nat, d < k.toNatClampNeg → gg d = pS fw bw d) (c_1 : 40 ≤ k) : okS fs := by
  exact hs
set_option maxHeartbeats 1000000 in
theorem pf_X0_renew_36 (bw : Int32) (pts : Int32) (fw : Nat → Int32) (fl : Nat → Int32) (fd : Nat → Int32) (fh : Nat → Int32) (fg : Nat → Int32) (fs : Nat → Int32) (n_2 : Nat) (k : Int32) (gg : Nat → Int32) (hs : okS fs) (hg0 : fg 0 = 0) (hwm : okWm fw) (hb0 : 0 ≤ bw) (hb20 : bw ≤ 20) (hdg : okDeg fd pts) (hth : okTh fh pts) (hn_2 : 40 - k.toNatClampNeg < n_2 + 1) (hk1 : 1 ≤ k) (hk2 : k ≤ 40) (hgg : ∀ d : Nat, d < k.toNatClampNeg → gg d = pS fw bw d) (c_1 : 40 ≤ k) : ∀ j : Nat, j < (0 : Int32).toNatClampNeg → fs j = stF fw bw fd fh pts (fl 0) j := by
  intro j hj
  exact absurd hj (by simp)
set_option maxHeartbeats 1000000 in
theorem pf_X0_renew_37 (bw : Int32) (pts : Int32) (fw : Nat → Int32) (fl : Nat → Int32) (fd : Nat → Int32) (fh : Nat → Int32) (fg : Nat → Int32) (fs : Nat → Int32) (n_2 : Nat) (k : Int32) (gg : Nat → Int32) (hs : okS fs) (hg0 : fg 0 = 0) (hwm : okWm fw) (hb0 : 0 ≤ bw) (hb20 : bw ≤ 20) (hdg : okDeg fd pts) (hth : okTh fh pts) (hn_2 : 40 - k.toNatClampNeg < n_2 + 1) (hk1 : 1 ≤ k) (hk2 : k ≤ 40) (hgg : ∀ d : Nat, d < k.toNatClampNeg → gg d = pS fw bw d) (c_1 : 40 ≤ k) : ∀ d : Nat, (0 : Int32).toNatClampNeg < d → d < (0 : Int32).toNatClampNeg → hdF fw bw fd fh pts (0 : Int32).toNatClampNeg d < fl 0 := by
  intro d h1 h2
  exact absurd h2 (by simp)
set_option maxHeartbeats 1000000 in
theorem pf_X0_renew_38 (bw : Int32) (pts : Int32) (fw : Nat → Int32) (fd : Nat → Int32) (fh : Nat → Int32) (fg : Nat → Int32) (fs : Nat → Int32) (n_2 : Nat) (k : Int32) (gg : Nat → Int32) (v_14 : Int32) (hs : okS fs) (hg0 : fg 0 = 0) (hwm : okWm fw) (hb0 : 0 ≤ bw) (hb20 : bw ≤ 20) (hdg : okDeg fd pts) (hth : okTh fh pts) (hn_2 : 40 - k.toNatClampNeg < n_2 + 1) (hk1 : 1 ≤ k) (hk2 : k ≤ 40) (hgg : ∀ d : Nat, d < k.toNatClampNeg → gg d = pS fw bw d) (c_1 : ¬ 40 ≤ k) (ev_14 : v_14 = k - 1) : vp_in v_14 40 := by
  exact vi_in (M := 40) rfl (by grind) (by grind)
set_option maxHeartbeats 1000000 in
theorem pf_X0_renew_39 (bw : Int32) (pts : Int32) (fw : Nat → Int32) (fd : Nat → Int32) (fh : Nat → Int32) (fg : Nat → Int32) (fs : Nat → Int32) (n_2 : Nat) (k : Int32) (gg : Nat → Int32) (v_14 : Int32) (v_15 : Int32) (v_16 : Int32) (hs : okS fs) (hg0 : fg 0 = 0) (hwm : okWm fw) (hb0 : 0 ≤ bw) (hb20 : bw ≤ 20) (hdg : okDeg fd pts) (hth : okTh fh pts) (hn_2 : 40 - k.toNatClampNeg < n_2 + 1) (hk1 : 1 ≤ k) (hk2 : k ≤ 40) (hgg : ∀ d : Nat, d < k.toNatClampNeg → gg d = pS fw bw d) (c_1 : ¬ 40 ≤ k) (ev_14 : v_14 = k - 1) (ev_15 : v_15 = gg v_14.toNatClampNeg) (ev_16 : v_16 = k - 1) : vp_in v_16 40 := by
  exact vi_in (M := 40) rfl (by grind) (by grind)
set_option maxHeartbeats 1000000 in
theorem pf_X0_renew_40 (bw : Int32) (pts : Int32) (fw : Nat → Int32) (fd : Nat → Int32) (fh : Nat → Int32) (fg : Nat → Int32) (fs : Nat → Int32) (n_2 : Nat) (k : Int32) (gg : Nat → Int32) (v_14 : Int32) (v_15 : Int32) (v_16 : Int32) (v_17 : Int32) (v_18 : Int32) (v_19 : Int32) (v_20 : Int32) (hs : okS fs) (hg0 : fg 0 = 0) (hwm : okWm fw) (hb0 : 0 ≤ bw) (hb20 : bw ≤ 20) (hdg : okDeg fd pts) (hth : okTh fh pts) (hn_2 : 40 - k.toNatClampNeg < n_2 + 1) (hk1 : 1 ≤ k) (hk2 : k ≤ 40) (hgg : ∀ d : Nat, d < k.toNatClampNeg → gg d = pS fw bw d) (c_1 : ¬ 40 ≤ k) (ev_14 : v_14 = k - 1) (ev_15 : v_15 = gg v_14.toNatClampNeg) (ev_16 : v_16 = k - 1) (ev_17 : v_17 = fw v_16.toNatClampNeg) (ev_18 : v_18 = v_17 - bw) (ev_19 : v_19 = (if 0 < v_18 then v_18 else 0)) (ev_20 : v_20 = v_15 + v_19) : vp_in k 40 := by
  exact vi_in (M := 40) rfl (by grind) (by grind)
set_option maxHeartbeats 1000000 in
theorem pf_X0_renew_41 (bw : Int32) (pts : Int32) (fw : Nat → Int32) (fd : Nat → Int32) (fh : Nat → Int32) (fg : Nat → Int32) (fs : Nat → Int32) (n_2 : Nat) (k : Int32) (gg : Nat → Int32) (v_14 : Int32) (v_15 : Int32) (v_16 : Int32) (v_17 : Int32) (v_18 : Int32) (v_19 : Int32) (v_20 : Int32) (v_21 : Int32) (hs : okS fs) (hg0 : fg 0 = 0) (hwm : okWm fw) (hb0 : 0 ≤ bw) (hb20 : bw ≤ 20) (hdg : okDeg fd pts) (hth : okTh fh pts) (hn_2 : 40 - k.toNatClampNeg < n_2 + 1) (hk1 : 1 ≤ k) (hk2 : k ≤ 40) (hgg : ∀ d : Nat, d < k.toNatClampNeg → gg d = pS fw bw d) (c_1 : ¬ 40 ≤ k) (ev_14 : v_14 = k - 1) (ev_15 : v_15 = gg v_14.toNatClampNeg) (ev_16 : v_16 = k - 1) (ev_17 : v_17 = fw v_16.toNatClampNeg) (ev_18 : v_18 = v_17 - bw) (ev_19 : v_19 = (if 0 < v_18 then v_18 else 0)) (ev_20 : v_20 = v_15 + v_19) (ev_21 : v_21 = k + 1) : 40 - v_21.toNatClampNeg < n_2 := by
  exact ms_dec (L := 40) (k := k) (by grind) (show ¬ (40 : Int32) ≤ k by grind) (by omega) (by assumption) hn_2
set_option maxHeartbeats 1000000 in
theorem pf_X0_renew_42 (bw : Int32) (pts : Int32) (fw : Nat → Int32) (fd : Nat → Int32) (fh : Nat → Int32) (fg : Nat → Int32) (fs : Nat → Int32) (n_2 : Nat) (k : Int32) (gg : Nat → Int32) (v_14 : Int32) (v_15 : Int32) (v_16 : Int32) (v_17 : Int32) (v_18 : Int32) (v_19 : Int32) (v_20 : Int32) (v_21 : Int32) (hs : okS fs) (hg0 : fg 0 = 0) (hwm : okWm fw) (hb0 : 0 ≤ bw) (hb20 : bw ≤ 20) (hdg : okDeg fd pts) (hth : okTh fh pts) (hn_2 : 40 - k.toNatClampNeg < n_2 + 1) (hk1 : 1 ≤ k) (hk2 : k ≤ 40) (hgg : ∀ d : Nat, d < k.toNatClampNeg → gg d = pS fw bw d) (c_1 : ¬ 40 ≤ k) (ev_14 : v_14 = k - 1) (ev_15 : v_15 = gg v_14.toNatClampNeg) (ev_16 : v_16 = k - 1) (ev_17 : v_17 = fw v_16.toNatClampNeg) (ev_18 : v_18 = v_17 - bw) (ev_19 : v_19 = (if 0 < v_18 then v_18 else 0)) (ev_20 : v_20 = v_15 + v_19) (ev_21 : v_21 = k + 1) : 1 ≤ v_21 := by
  grind
set_option maxHeartbeats 1000000 in
theorem pf_X0_renew_43 (bw : Int32) (pts : Int32) (fw : Nat → Int32) (fd : Nat → Int32) (fh : Nat → Int32) (fg : Nat → Int32) (fs : Nat → Int32) (n_2 : Nat) (k : Int32) (gg : Nat → Int32) (v_14 : Int32) (v_15 : Int32) (v_16 : Int32) (v_17 : Int32) (v_18 : Int32) (v_19 : Int32) (v_20 : Int32) (v_21 : Int32) (hs : okS fs) (hg0 : fg 0 = 0) (hwm : okWm fw) (hb0 : 0 ≤ bw) (hb20 : bw ≤ 20) (hdg : okDeg fd pts) (hth : okTh fh pts) (hn_2 : 40 - k.toNatClampNeg < n_2 + 1) (hk1 : 1 ≤ k) (hk2 : k ≤ 40) (hgg : ∀ d : Nat, d < k.toNatClampNeg → gg d = pS fw bw d) (c_1 : ¬ 40 ≤ k) (ev_14 : v_14 = k - 1) (ev_15 : v_15 = gg v_14.toNatClampNeg) (ev_16 : v_16 = k - 1) (ev_17 : v_17 = fw v_16.toNatClampNeg) (ev_18 : v_18 = v_17 - bw) (ev_19 : v_19 = (if 0 < v_18 then v_18 else 0)) (ev_20 : v_20 = v_15 + v_19) (ev_21 : v_21 = k + 1) : v_21 ≤ 40 := by
  grind
set_option maxHeartbeats 1000000 in
theorem pf_X0_renew_44 (bw : Int32) (pts : Int32) (fw : Nat → Int32) (fd : Nat → Int32) (fh : Nat → Int32) (fg : Nat → Int32) (fs : Nat → Int32) (n_2 : Nat) (k : Int32) (gg : Nat → Int32) (v_14 : Int32) (v_15 : Int32) (v_16 : Int32) (v_17 : Int32) (v_18 : Int32) (v_19 : Int32) (v_20 : Int32) (v_21 : Int32) (hs : okS fs) (hg0 : fg 0 = 0) (hwm : okWm fw) (hb0 : 0 ≤ bw) (hb20 : bw ≤ 20) (hdg : okDeg fd pts) (hth : okTh fh pts) (hn_2 : 40 - k.toNatClampNeg < n_2 + 1) (hk1 : 1 ≤ k) (hk2 : k ≤ 40) (hgg : ∀ d : Nat, d < k.toNatClampNeg → gg d = pS fw bw d) (c_1 : ¬ 40 ≤ k) (ev_14 : v_14 = k - 1) (ev_15 : v_15 = gg v_14.toNatClampNeg) (ev_16 : v_16 = k - 1) (ev_17 : v_17 = fw v_16.toNatClampNeg) (ev_18 : v_18 = v_17 - bw) (ev_19 : v_19 = (if 0 < v_18 then v_18 else 0)) (ev_20 : v_20 = v_15 + v_19) (ev_21 : v_21 = k + 1) : ∀ d : Nat, d < v_21.toNatClampNeg → (upd gg k.toNatClampNeg v_20) d = pS fw bw d := by
  refine dg_s hk1 (by grind) (by assumption) hgg ?_
  have h9 := hwm (k - 1).toNatClampNeg
  have h8 := dg_mx h9.1 h9.2 hb0 hb20
  subst_vars
  unfold dgF
  rw [h8]
set_option maxHeartbeats 1000000 in
theorem pf_X0_renew_45 (bw : Int32) (pts : Int32) (fw : Nat → Int32) (fd : Nat → Int32) (fh : Nat → Int32) (fg : Nat → Int32) (fs : Nat → Int32) (hs : okS fs) (hg0 : fg 0 = 0) (hwm : okWm fw) (hb0 : 0 ≤ bw) (hb20 : bw ≤ 20) (hdg : okDeg fd pts) (hth : okTh fh pts) : 1 ≤ (1 : Int32) := by
  grind
set_option maxHeartbeats 1000000 in
theorem pf_X0_renew_46 (bw : Int32) (pts : Int32) (fw : Nat → Int32) (fd : Nat → Int32) (fh : Nat → Int32) (fg : Nat → Int32) (fs : Nat → Int32) (hs : okS fs) (hg0 : fg 0 = 0) (hwm : okWm fw) (hb0 : 0 ≤ bw) (hb20 : bw ≤ 20) (hdg : okDeg fd pts) (hth : okTh fh pts) : (1 : Int32) ≤ 40 := by
  grind
set_option maxHeartbeats 1000000 in
theorem pf_X0_renew_47 (bw : Int32) (pts : Int32) (fw : Nat → Int32) (fd : Nat → Int32) (fh : Nat → Int32) (fg : Nat → Int32) (fs : Nat → Int32) (hs : okS fs) (hg0 : fg 0 = 0) (hwm : okWm fw) (hb0 : 0 ≤ bw) (hb20 : bw ≤ 20) (hdg : okDeg fd pts) (hth : okTh fh pts) : ∀ d : Nat, d < (1 : Int32).toNatClampNeg → fg d = pS fw bw d := by
  intro d hd
  have z9 : (1 : Int32).toNatClampNeg = 1 := rfl
  rw [z9] at hd
  rw [show d = 0 by omega, hg0]
  rfl
set_option maxHeartbeats 4000000 in
set_option maxRecDepth 100000 in
theorem c_X0_renew (l : Launch) (D : va_G) (cI cQ : ClassId) (sz : Nat) (h0 : Nat) (a0 : Nat) (a1 : Nat) (a2 : Nat) (a3 : Nat) (a4 : Nat) (a5 : Nat) (bw : Int32) (pts : Int32) (fw : Nat → Int32) (fl : Nat → Int32) (fd : Nat → Int32) (fh : Nat → Int32) (fg : Nat → Int32) (fs : Nat → Int32) (hs : okS fs) (hg0 : fg 0 = 0) (hwm : okWm fw) (hb0 : 0 ≤ bw) (hb20 : bw ≤ 20) (hdg : okDeg fd pts) (hth : okTh fh pts) : CtV l yX0_renew wsX0_renew 2 48 0 0 [.ref h0] D [(cI, .int), (cQ, .array .int)] [(h0, .inr (0, [.ref a0, .ref a1, .ref a2, .ref a3, .ref a4, .ref a5, .int bw, .int pts])), (a0, .inl (cI, 40, .inl fw)), (a1, .inl (cI, 2, .inl fl)), (a2, .inl (cI, 6, .inl fd)), (a3, .inl (cI, 6, .inl fh)), (a4, .inl (cI, 40, .inl fg)), (a5, .inl (cI, 40, .inl fs))] sz (fun (u : (Nat → Int32) × (Nat → Int32)) => okS u.2 ∧ okFg fw bw u.1 ∧ okFs fw bw fd fh pts (fl 0) u.2) (fun (u : (Nat → Int32) × (Nat → Int32)) => [(h0, .inr (0, [.ref a0, .ref a1, .ref a2, .ref a3, .ref a4, .ref a5, .int bw, .int pts])), (a0, .inl (cI, 40, .inl fw)), (a1, .inl (cI, 2, .inl fl)), (a2, .inl (cI, 6, .inl fd)), (a3, .inl (cI, 6, .inl fh)), (a4, .inl (cI, 40, .inl u.1)), (a5, .inl (cI, 40, .inl u.2))]) := by
  refine Met.ofW (cc := cX0_renew) (maxL := 3) (ret := none) (by decide) rfl ?_
  intro p e s m args below meth c s₁ B hml hv
  obtain ⟨rfl, hsz, hP, hK, hD0, hN⟩ := hv
  have hx := B.exec
  have hb := B.bytes
  have hr := B.returns
  have hts := atoms_spec (ws := wsX0_renew) B.pre
  have hown : s.vm.findClass RX0 = some m.cls := findClass_of_methodNamed B.named
  have hlocks := B.notSynchronized
  subst hsz
  have hD := hD0.self (sz := s.heap.size)
  generalize hAe : va_A [(h0, .inr (0, [.ref a0, .ref a1, .ref a2, .ref a3, .ref a4, .ref a5, .int bw, .int pts])), (a0, .inl (cI, 40, .inl fw)), (a1, .inl (cI, 2, .inl fl)), (a2, .inl (cI, 6, .inl fd)), (a3, .inl (cI, 6, .inl fh)), (a4, .inl (cI, 40, .inl fg)), (a5, .inl (cI, 40, .inl fs))] s.heap.size = A at hD ⊢
  have hA : ∀ q : Nat, s.heap.size ≤ q → A q := fun q h => by rw [← hAe]; exact Or.inr h
  have hS : va_S A s.heap s.heap [] := va_S.rf
  have hl := lv_entry ([.ref h0]) (n := 3) (Nat.le_of_ble_eq_true rfl)
  rw [lg_entry_eq]
  generalize (lg_sl ([.ref h0]) ++ List.replicate (3 - (lg_sl ([.ref h0])).length) Slot.unset).toArray = ls at hl ⊢
  have hl : lv_has ls 3 [(0, .ref h0)] := hl
  refine W_gen (fun GW hIn hOut => ?_)
  refine hIn _ _ _ _ _ ?_
  have hP0 := hP
  refine lv_iconst (v := 1) hx hb dX0_renew_0 (by decide) ?_
  refine lv_istore_n (lv' := [(1, .int 1), (0, .ref h0)]) hx hb dX0_renew_1 rfl hl (by decide) rfl (fun ls hl => ?_)
  have lp_2 : ∀ (n : Nat) (k : Int32) (gg : Nat → Int32) (H : Heap) (locs : List Loc) (ls : Array Slot), 40 - k.toNatClampNeg < n → (1 ≤ k) → (k ≤ 40) → (∀ d : Nat, d < k.toNatClampNeg → gg d = pS fw bw d) → va_P D vwCl [(h0, .inr (0, [.ref a0, .ref a1, .ref a2, .ref a3, .ref a4, .ref a5, .int bw, .int pts])), (a0, .inl (cI, 40, .inl fw)), (a1, .inl (cI, 2, .inl fl)), (a2, .inl (cI, 6, .inl fd)), (a3, .inl (cI, 6, .inl fh)), (a4, .inl (cI, 40, .inl gg)), (a5, .inl (cI, 40, .inl fs))] H → va_D A [(h0, .inr (0, [.ref a0, .ref a1, .ref a2, .ref a3, .ref a4, .ref a5, .int bw, .int pts])), (a0, .inl (cI, 40, .inl fw)), (a1, .inl (cI, 2, .inl fl)), (a2, .inl (cI, 6, .inl fd)), (a3, .inl (cI, 6, .inl fh)), (a4, .inl (cI, 40, .inl gg)), (a5, .inl (cI, 40, .inl fs))] → va_S A s.heap H locs → lv_has ls 3 [(0, .ref h0), (1, .int k)] → GW H locs 0 0 (F0 m 2 ls []) := by
    intro n_2
    induction n_2 with
    | zero => intro k gg H locs ls hn_2; exact absurd hn_2 (Nat.not_lt_zero _)
    | succ n_2 ih_2 =>
      intro k gg H locs ls hn_2 hk1 hk2 hgg hP hD hS hl
      refine hIn _ _ _ _ _ ?_
      refine lv_iload_n hx hb dX0_renew_2 rfl (lv_at hl 1 rfl) ?_
      refine lv_bipush (v := 40) hx hb dX0_renew_3 (by decide) ?_
      refine lv_icmp_ge (tgt := 46) hx hb dX0_renew_5 (by decide) (fun c_1 => ?_) (fun c_1 => ?_)
      · refine lv_iconst (v := 0) hx hb dX0_renew_46 (by decide) ?_
        refine lv_istore_n (lv' := [(1, .int 0), (0, .ref h0)]) hx hb dX0_renew_47 rfl hl (by decide) rfl (fun ls hl => ?_)
        refine lv_iconst (v := 0) hx hb dX0_renew_48 (by decide) ?_
        refine lv_istore_n (lv' := [(2, .int 0), (1, .int 0), (0, .ref h0)]) hx hb dX0_renew_49 rfl hl (by decide) rfl (fun ls hl => ?_)
        have lp_50 : ∀ (n : Nat) (k1 : Int32) (k2 : Int32) (gs : Nat → Int32) (H : Heap) (locs : List Loc) (ls : Array Slot), 40 - k2.toNatClampNeg < n → (0 ≤ k2) → (k2 ≤ 40) → (0 ≤ k1) → (k1 ≤ 40) → (okS gs) → (∀ j : Nat, j < k2.toNatClampNeg → gs j = stF fw bw fd fh pts (fl 0) j) → (∀ d : Nat, k2.toNatClampNeg < d → d < k1.toNatClampNeg → hdF fw bw fd fh pts k2.toNatClampNeg d < fl 0) → va_P D vwCl [(h0, .inr (0, [.ref a0, .ref a1, .ref a2, .ref a3, .ref a4, .ref a5, .int bw, .int pts])), (a0, .inl (cI, 40, .inl fw)), (a1, .inl (cI, 2, .inl fl)), (a2, .inl (cI, 6, .inl fd)), (a3, .inl (cI, 6, .inl fh)), (a4, .inl (cI, 40, .inl gg)), (a5, .inl (cI, 40, .inl gs))] H → va_D A [(h0, .inr (0, [.ref a0, .ref a1, .ref a2, .ref a3, .ref a4, .ref a5, .int bw, .int pts])), (a0, .inl (cI, 40, .inl fw)), (a1, .inl (cI, 2, .inl fl)), (a2, .inl (cI, 6, .inl fd)), (a3, .inl (cI, 6, .inl fh)), (a4, .inl (cI, 40, .inl gg)), (a5, .inl (cI, 40, .inl gs))] → va_S A s.heap H locs → lv_has ls 3 [(0, .ref h0), (1, .int k1), (2, .int k2)] → GW H locs 0 0 (F0 m 50 ls []) := by
          intro n_50
          induction n_50 with
          | zero => intro k1 k2 gs H locs ls hn_50; exact absurd hn_50 (Nat.not_lt_zero _)
          | succ n_50 ih_50 =>
            intro k1 k2 gs H locs ls hn_50 hk3 hk4 hk5 hk7 hgs hfs hpp hP hD hS hl
            refine hIn _ _ _ _ _ ?_
            refine lv_iload_n hx hb dX0_renew_50 rfl (lv_at hl 2 rfl) ?_
            refine lv_bipush (v := 40) hx hb dX0_renew_51 (by decide) ?_
            refine lv_icmp_ge (tgt := 104) hx hb dX0_renew_53 (by decide) (fun c_2 => ?_) (fun c_2 => ?_)
            · refine W.widen (k := 0) (n := 0) (Nat.le_of_ble_eq_true rfl) (Nat.le_of_ble_eq_true rfl) ?_
              exact fi_v (gg, gs) hx hb hr hlocks hK (hP.sub [0, 1, 2, 3, 4, 5, 6] rfl) (hD.sub [0, 1, 2, 3, 4, 5, 6] (by decide) rfl) hS ⟨(pf_X0_renew_1 bw pts fw fl fd fh fg fs n_2 k gg n_50 k1 k2 gs hs hg0 hwm hb0 hb20 hdg hth hn_2 hk1 hk2 hgg c_1 hn_50 hk3 hk4 hk5 hk7 hgs hfs hpp c_2), (pf_X0_renew_2 bw pts fw fl fd fh fg fs n_2 k gg n_50 k1 k2 gs hs hg0 hwm hb0 hb20 hdg hth hn_2 hk1 hk2 hgg c_1 hn_50 hk3 hk4 hk5 hk7 hgs hfs hpp c_2), (pf_X0_renew_3 bw pts fw fl fd fh fg fs n_2 k gg n_50 k1 k2 gs hs hg0 hwm hb0 hb20 hdg hth hn_2 hk1 hk2 hgg c_1 hn_50 hk3 hk4 hk5 hk7 hgs hfs hpp c_2)⟩ dX0_renew_104
            · refine lv_iload_n hx hb dX0_renew_56 rfl (lv_at hl 1 rfl) ?_
              refine lv_iload_n hx hb dX0_renew_57 rfl (lv_at hl 2 rfl) ?_
              refine lv_iconst (v := 1) hx hb dX0_renew_58 (by decide) ?_
              refine lv_iadd hx hb dX0_renew_59 ?_
              refine lv_topi (fun v_3 ev_3 => ?_)
              refine va_mmax hx hb (by rw [hml]; exact hl.1.symm) hown (hts _ wd_X0_renew_4) (hts _ wd_X0_renew_5) (hts _ wd_X0_renew_6) (hts _ wd_X0_renew_7) (Nat.le_of_ble_eq_true rfl) (Nat.le_of_ble_eq_true rfl) (Nat.le_of_ble_eq_true rfl) (Nat.le_of_ble_eq_true rfl) dX0_renew_60 ?_
              refine lv_topi (fun v_4 ev_4 => ?_)
              refine lv_istore_n (lv' := [(1, .int v_4), (0, .ref h0), (2, .int k2)]) hx hb dX0_renew_63 rfl hl (by decide) rfl (fun ls hl => ?_)
              have lp_64 : ∀ (n : Nat) (k3 : Int32) (H : Heap) (locs : List Loc) (ls : Array Slot), 40 - k3.toNatClampNeg < n → (0 ≤ k3) → (k3 ≤ 40) → (k2 + 1 ≤ k3) → (∀ d : Nat, k2.toNatClampNeg < d → d < k3.toNatClampNeg → hdF fw bw fd fh pts k2.toNatClampNeg d < fl 0) → va_P D vwCl [(h0, .inr (0, [.ref a0, .ref a1, .ref a2, .ref a3, .ref a4, .ref a5, .int bw, .int pts])), (a0, .inl (cI, 40, .inl fw)), (a1, .inl (cI, 2, .inl fl)), (a2, .inl (cI, 6, .inl fd)), (a3, .inl (cI, 6, .inl fh)), (a4, .inl (cI, 40, .inl gg)), (a5, .inl (cI, 40, .inl gs))] H → va_D A [(h0, .inr (0, [.ref a0, .ref a1, .ref a2, .ref a3, .ref a4, .ref a5, .int bw, .int pts])), (a0, .inl (cI, 40, .inl fw)), (a1, .inl (cI, 2, .inl fl)), (a2, .inl (cI, 6, .inl fd)), (a3, .inl (cI, 6, .inl fh)), (a4, .inl (cI, 40, .inl gg)), (a5, .inl (cI, 40, .inl gs))] → va_S A s.heap H locs → lv_has ls 3 [(0, .ref h0), (1, .int k3), (2, .int k2)] → GW H locs 0 0 (F0 m 64 ls []) := by
                intro n_64
                induction n_64 with
                | zero => intro k3 H locs ls hn_64; exact absurd hn_64 (Nat.not_lt_zero _)
                | succ n_64 ih_64 =>
                  intro k3 H locs ls hn_64 hk6 hk8 hk9 hp3 hP hD hS hl
                  refine hIn _ _ _ _ _ ?_
                  refine lv_iload_n hx hb dX0_renew_64 rfl (lv_at hl 1 rfl) ?_
                  refine lv_bipush (v := 40) hx hb dX0_renew_65 (by decide) ?_
                  refine lv_icmp_ge (tgt := 91) hx hb dX0_renew_67 (by decide) (fun c_5 => ?_) (fun c_5 => ?_)
                  · refine lv_aload_n hx hb dX0_renew_91 rfl (lv_at hl 0 rfl) ?_
                    refine va_get (D := D) (ci := 0) (v := .ref a5) (C := RX0) (T := TX0) (N := 8) hx hb hts iw_X0_renew_0 hown hK hP 0 rfl rfl 5 (by decide) (hts _ wd_X0_renew_9) (fun _ h9 => h9) rfl dX0_renew_92 ?_
                    refine lv_iload_n hx hb dX0_renew_95 rfl (lv_at hl 2 rfl) ?_
                    refine lv_iload_n hx hb dX0_renew_96 rfl (lv_at hl 1 rfl) ?_
                    refine va_iast hx hb hK hP hD hS 6 0 rfl rfl (pf_X0_renew_4 bw pts fw fl fd fh fg fs n_2 k gg n_50 k1 k2 gs v_3 v_4 n_64 k3 hs hg0 hwm hb0 hb20 hdg hth hn_2 hk1 hk2 hgg c_1 hn_50 hk3 hk4 hk5 hk7 hgs hfs hpp c_2 ev_3 ev_4 hn_64 hk6 hk8 hk9 hp3 c_5) dX0_renew_97 (fun H locs hP hD hS => ?_)
                    have hP : va_P D vwCl [(h0, .inr (0, [.ref a0, .ref a1, .ref a2, .ref a3, .ref a4, .ref a5, .int bw, .int pts])), (a0, .inl (cI, 40, .inl fw)), (a1, .inl (cI, 2, .inl fl)), (a2, .inl (cI, 6, .inl fd)), (a3, .inl (cI, 6, .inl fh)), (a4, .inl (cI, 40, .inl gg)), (a5, .inl (cI, 40, .inl (upd gs k2.toNatClampNeg k3)))] H := hP
                    have hD : va_D A [(h0, .inr (0, [.ref a0, .ref a1, .ref a2, .ref a3, .ref a4, .ref a5, .int bw, .int pts])), (a0, .inl (cI, 40, .inl fw)), (a1, .inl (cI, 2, .inl fl)), (a2, .inl (cI, 6, .inl fd)), (a3, .inl (cI, 6, .inl fh)), (a4, .inl (cI, 40, .inl gg)), (a5, .inl (cI, 40, .inl (upd gs k2.toNatClampNeg k3)))] := hD
                    obtain ⟨v_6, ev_6⟩ : ∃ y : Int32, y = k2 + 1 := ⟨_, rfl⟩
                    refine lv_iinc (v := v_6) (lv' := [(2, .int v_6), (0, .ref h0), (1, .int k3)]) hx hb dX0_renew_98 hl (k := 2) rfl (by rw [ev_6]; rfl) (by decide) rfl (fun ls hl => ?_)
                    refine lv_goto (tgt := 50) hx hb dX0_renew_101 (by decide) ?_
                    exact hOut _ _ _ _ _ (ih_50 k3 v_6 (upd gs k2.toNatClampNeg k3) _ _ _ (pf_X0_renew_5 bw pts fw fl fd fh fg fs n_2 k gg n_50 k1 k2 gs v_3 v_4 n_64 k3 v_6 hs hg0 hwm hb0 hb20 hdg hth hn_2 hk1 hk2 hgg c_1 hn_50 hk3 hk4 hk5 hk7 hgs hfs hpp c_2 ev_3 ev_4 hn_64 hk6 hk8 hk9 hp3 c_5 ev_6) (pf_X0_renew_6 bw pts fw fl fd fh fg fs n_2 k gg n_50 k1 k2 gs v_3 v_4 n_64 k3 v_6 hs hg0 hwm hb0 hb20 hdg hth hn_2 hk1 hk2 hgg c_1 hn_50 hk3 hk4 hk5 hk7 hgs hfs hpp c_2 ev_3 ev_4 hn_64 hk6 hk8 hk9 hp3 c_5 ev_6) (pf_X0_renew_7 bw pts fw fl fd fh fg fs n_2 k gg n_50 k1 k2 gs v_3 v_4 n_64 k3 v_6 hs hg0 hwm hb0 hb20 hdg hth hn_2 hk1 hk2 hgg c_1 hn_50 hk3 hk4 hk5 hk7 hgs hfs hpp c_2 ev_3 ev_4 hn_64 hk6 hk8 hk9 hp3 c_5 ev_6) (pf_X0_renew_8 bw pts fw fl fd fh fg fs n_2 k gg n_50 k1 k2 gs v_3 v_4 n_64 k3 v_6 hs hg0 hwm hb0 hb20 hdg hth hn_2 hk1 hk2 hgg c_1 hn_50 hk3 hk4 hk5 hk7 hgs hfs hpp c_2 ev_3 ev_4 hn_64 hk6 hk8 hk9 hp3 c_5 ev_6) (pf_X0_renew_9 bw pts fw fl fd fh fg fs n_2 k gg n_50 k1 k2 gs v_3 v_4 n_64 k3 v_6 hs hg0 hwm hb0 hb20 hdg hth hn_2 hk1 hk2 hgg c_1 hn_50 hk3 hk4 hk5 hk7 hgs hfs hpp c_2 ev_3 ev_4 hn_64 hk6 hk8 hk9 hp3 c_5 ev_6) (pf_X0_renew_10 bw pts fw fl fd fh fg fs n_2 k gg n_50 k1 k2 gs v_3 v_4 n_64 k3 v_6 hs hg0 hwm hb0 hb20 hdg hth hn_2 hk1 hk2 hgg c_1 hn_50 hk3 hk4 hk5 hk7 hgs hfs hpp c_2 ev_3 ev_4 hn_64 hk6 hk8 hk9 hp3 c_5 ev_6) (pf_X0_renew_11 bw pts fw fl fd fh fg fs n_2 k gg n_50 k1 k2 gs v_3 v_4 n_64 k3 v_6 hs hg0 hwm hb0 hb20 hdg hth hn_2 hk1 hk2 hgg c_1 hn_50 hk3 hk4 hk5 hk7 hgs hfs hpp c_2 ev_3 ev_4 hn_64 hk6 hk8 hk9 hp3 c_5 ev_6) (pf_X0_renew_12 bw pts fw fl fd fh fg fs n_2 k gg n_50 k1 k2 gs v_3 v_4 n_64 k3 v_6 hs hg0 hwm hb0 hb20 hdg hth hn_2 hk1 hk2 hgg c_1 hn_50 hk3 hk4 hk5 hk7 hgs hfs hpp c_2 ev_3 ev_4 hn_64 hk6 hk8 hk9 hp3 c_5 ev_6) (hP.sub [0, 1, 2, 3, 4, 5, 6] rfl) (hD.sub [0, 1, 2, 3, 4, 5, 6] (by decide) rfl) hS (lv_sub hl [1, 2, 0] rfl))
                  · refine lv_aload_n hx hb dX0_renew_70 rfl (lv_at hl 0 rfl) ?_
                    refine lv_iload_n hx hb dX0_renew_71 rfl (lv_at hl 2 rfl) ?_
                    refine lv_iload_n hx hb dX0_renew_72 rfl (lv_at hl 1 rfl) ?_
                    refine cc_i (wc := [(h0, .inr (0, [.ref a0, .ref a1, .ref a2, .ref a3, .ref a4, .ref a5, .int bw, .int pts])), (a2, .inl (cI, 6, .inl fd)), (a3, .inl (cI, 6, .inl fh)), (a4, .inl (cI, 40, .inl gg))]) (wr := [(a0, .inl (cI, 40, .inl fw)), (a1, .inl (cI, 2, .inl fl)), (a5, .inl (cI, 40, .inl gs))]) (va_runV (As := [.int k2, .int k3]) (rest := []) ⟨hx, hb, hml, hown, hts⟩ (c_X0_hardnessOn l D cI cQ H.size h0 a2 a3 a4 a0 a1 a5 bw pts fd fh gg k2 k3 ) (cwV 2 hts gX0_renew_X0_hardnessOn rfl rfl rfl (by decide +kernel) ⟨Nat.le_of_ble_eq_true rfl, Nat.le_of_ble_eq_true rfl⟩) (preV (wc := [(h0, .inr (0, [.ref a0, .ref a1, .ref a2, .ref a3, .ref a4, .ref a5, .int bw, .int pts])), (a2, .inl (cI, 6, .inl fd)), (a3, .inl (cI, 6, .inl fh)), (a4, .inl (cI, 40, .inl gg))]) (ci := 0) (q0 := 0) hK hP hD hN [0, 3, 4, 5] rfl (by decide) rfl rfl) rfl rfl hl.1 rfl (lv_room (Nat.le_of_ble_eq_true rfl)) dX0_renew_73 ⟨Nat.le_of_ble_eq_true rfl, Nat.le_of_ble_eq_true rfl⟩) hP hD hS hA [0, 3, 4, 5] [1, 2, 6] rfl rfl (by decide) (by decide) (fun r_7 u H locs w_8 hP hD hS => ?_)
                    have hP : va_P D vwCl [(a0, .inl (cI, 40, .inl fw)), (a1, .inl (cI, 2, .inl fl)), (a5, .inl (cI, 40, .inl gs)), (h0, .inr (0, [.ref a0, .ref a1, .ref a2, .ref a3, .ref a4, .ref a5, .int bw, .int pts])), (a2, .inl (cI, 6, .inl fd)), (a3, .inl (cI, 6, .inl fh)), (a4, .inl (cI, 40, .inl gg))] H := hP
                    have hD : va_D A [(a0, .inl (cI, 40, .inl fw)), (a1, .inl (cI, 2, .inl fl)), (a5, .inl (cI, 40, .inl gs)), (h0, .inr (0, [.ref a0, .ref a1, .ref a2, .ref a3, .ref a4, .ref a5, .int bw, .int pts])), (a2, .inl (cI, 6, .inl fd)), (a3, .inl (cI, 6, .inl fh)), (a4, .inl (cI, 40, .inl gg))] := hD
                    have w_8 : r_7 = hon fd fh gg pts k2 k3 := w_8
                    refine lv_aload_n hx hb dX0_renew_76 rfl (lv_at hl 0 rfl) ?_
                    refine va_get (D := D) (ci := 0) (v := .ref a1) (C := RX0) (T := TX0) (N := 8) hx hb hts iw_X0_renew_0 hown hK hP 3 rfl rfl 1 (by decide) (hts _ wd_X0_renew_8) (fun _ h9 => h9) rfl dX0_renew_77 ?_
                    refine lv_iconst (v := 0) hx hb dX0_renew_80 (by decide) ?_
                    refine va_iald hx hb hK hP 1 0 rfl rfl (by unfold vp_in; decide) dX0_renew_81 ?_
                    refine lv_topi (fun v_10 ev_10 => ?_)
                    have ev_10 : v_10 = fl 0 := ev_10
                    refine lv_icmp_ge (tgt := 91) hx hb dX0_renew_82 (by decide) (fun c_11 => ?_) (fun c_11 => ?_)
                    · refine lv_aload_n hx hb dX0_renew_91 rfl (lv_at hl 0 rfl) ?_
                      refine va_get (D := D) (ci := 0) (v := .ref a5) (C := RX0) (T := TX0) (N := 8) hx hb hts iw_X0_renew_0 hown hK hP 3 rfl rfl 5 (by decide) (hts _ wd_X0_renew_9) (fun _ h9 => h9) rfl dX0_renew_92 ?_
                      refine lv_iload_n hx hb dX0_renew_95 rfl (lv_at hl 2 rfl) ?_
                      refine lv_iload_n hx hb dX0_renew_96 rfl (lv_at hl 1 rfl) ?_
                      refine va_iast hx hb hK hP hD hS 2 0 rfl rfl (pf_X0_renew_13 bw pts fw fl fd fh fg fs n_2 k gg n_50 k1 k2 gs v_3 v_4 n_64 k3 r_7 v_10 hs hg0 hwm hb0 hb20 hdg hth hn_2 hk1 hk2 hgg c_1 hn_50 hk3 hk4 hk5 hk7 hgs hfs hpp c_2 ev_3 ev_4 hn_64 hk6 hk8 hk9 hp3 c_5 w_8 ev_10 c_11) dX0_renew_97 (fun H locs hP hD hS => ?_)
                      have hP : va_P D vwCl [(a0, .inl (cI, 40, .inl fw)), (a1, .inl (cI, 2, .inl fl)), (a5, .inl (cI, 40, .inl (upd gs k2.toNatClampNeg k3))), (h0, .inr (0, [.ref a0, .ref a1, .ref a2, .ref a3, .ref a4, .ref a5, .int bw, .int pts])), (a2, .inl (cI, 6, .inl fd)), (a3, .inl (cI, 6, .inl fh)), (a4, .inl (cI, 40, .inl gg))] H := hP
                      have hD : va_D A [(a0, .inl (cI, 40, .inl fw)), (a1, .inl (cI, 2, .inl fl)), (a5, .inl (cI, 40, .inl (upd gs k2.toNatClampNeg k3))), (h0, .inr (0, [.ref a0, .ref a1, .ref a2, .ref a3, .ref a4, .ref a5, .int bw, .int pts])), (a2, .inl (cI, 6, .inl fd)), (a3, .inl (cI, 6, .inl fh)), (a4, .inl (cI, 40, .inl gg))] := hD
                      obtain ⟨v_12, ev_12⟩ : ∃ y : Int32, y = k2 + 1 := ⟨_, rfl⟩
                      refine lv_iinc (v := v_12) (lv' := [(2, .int v_12), (0, .ref h0), (1, .int k3)]) hx hb dX0_renew_98 hl (k := 2) rfl (by rw [ev_12]; rfl) (by decide) rfl (fun ls hl => ?_)
                      refine lv_goto (tgt := 50) hx hb dX0_renew_101 (by decide) ?_
                      exact hOut _ _ _ _ _ (ih_50 k3 v_12 (upd gs k2.toNatClampNeg k3) _ _ _ (pf_X0_renew_14 bw pts fw fl fd fh fg fs n_2 k gg n_50 k1 k2 gs v_3 v_4 n_64 k3 r_7 v_10 v_12 hs hg0 hwm hb0 hb20 hdg hth hn_2 hk1 hk2 hgg c_1 hn_50 hk3 hk4 hk5 hk7 hgs hfs hpp c_2 ev_3 ev_4 hn_64 hk6 hk8 hk9 hp3 c_5 w_8 ev_10 c_11 ev_12) (pf_X0_renew_15 bw pts fw fl fd fh fg fs n_2 k gg n_50 k1 k2 gs v_3 v_4 n_64 k3 r_7 v_10 v_12 hs hg0 hwm hb0 hb20 hdg hth hn_2 hk1 hk2 hgg c_1 hn_50 hk3 hk4 hk5 hk7 hgs hfs hpp c_2 ev_3 ev_4 hn_64 hk6 hk8 hk9 hp3 c_5 w_8 ev_10 c_11 ev_12) (pf_X0_renew_16 bw pts fw fl fd fh fg fs n_2 k gg n_50 k1 k2 gs v_3 v_4 n_64 k3 r_7 v_10 v_12 hs hg0 hwm hb0 hb20 hdg hth hn_2 hk1 hk2 hgg c_1 hn_50 hk3 hk4 hk5 hk7 hgs hfs hpp c_2 ev_3 ev_4 hn_64 hk6 hk8 hk9 hp3 c_5 w_8 ev_10 c_11 ev_12) (pf_X0_renew_17 bw pts fw fl fd fh fg fs n_2 k gg n_50 k1 k2 gs v_3 v_4 n_64 k3 r_7 v_10 v_12 hs hg0 hwm hb0 hb20 hdg hth hn_2 hk1 hk2 hgg c_1 hn_50 hk3 hk4 hk5 hk7 hgs hfs hpp c_2 ev_3 ev_4 hn_64 hk6 hk8 hk9 hp3 c_5 w_8 ev_10 c_11 ev_12) (pf_X0_renew_18 bw pts fw fl fd fh fg fs n_2 k gg n_50 k1 k2 gs v_3 v_4 n_64 k3 r_7 v_10 v_12 hs hg0 hwm hb0 hb20 hdg hth hn_2 hk1 hk2 hgg c_1 hn_50 hk3 hk4 hk5 hk7 hgs hfs hpp c_2 ev_3 ev_4 hn_64 hk6 hk8 hk9 hp3 c_5 w_8 ev_10 c_11 ev_12) (pf_X0_renew_19 bw pts fw fl fd fh fg fs n_2 k gg n_50 k1 k2 gs v_3 v_4 n_64 k3 r_7 v_10 v_12 hs hg0 hwm hb0 hb20 hdg hth hn_2 hk1 hk2 hgg c_1 hn_50 hk3 hk4 hk5 hk7 hgs hfs hpp c_2 ev_3 ev_4 hn_64 hk6 hk8 hk9 hp3 c_5 w_8 ev_10 c_11 ev_12) (pf_X0_renew_20 bw pts fw fl fd fh fg fs n_2 k gg n_50 k1 k2 gs v_3 v_4 n_64 k3 r_7 v_10 v_12 hs hg0 hwm hb0 hb20 hdg hth hn_2 hk1 hk2 hgg c_1 hn_50 hk3 hk4 hk5 hk7 hgs hfs hpp c_2 ev_3 ev_4 hn_64 hk6 hk8 hk9 hp3 c_5 w_8 ev_10 c_11 ev_12) (pf_X0_renew_21 bw pts fw fl fd fh fg fs n_2 k gg n_50 k1 k2 gs v_3 v_4 n_64 k3 r_7 v_10 v_12 hs hg0 hwm hb0 hb20 hdg hth hn_2 hk1 hk2 hgg c_1 hn_50 hk3 hk4 hk5 hk7 hgs hfs hpp c_2 ev_3 ev_4 hn_64 hk6 hk8 hk9 hp3 c_5 w_8 ev_10 c_11 ev_12) (hP.sub [3, 0, 1, 4, 5, 6, 2] rfl) (hD.sub [3, 0, 1, 4, 5, 6, 2] (by decide) rfl) hS (lv_sub hl [1, 2, 0] rfl))
                    · obtain ⟨v_13, ev_13⟩ : ∃ y : Int32, y = k3 + 1 := ⟨_, rfl⟩
                      refine lv_iinc (v := v_13) (lv' := [(1, .int v_13), (0, .ref h0), (2, .int k2)]) hx hb dX0_renew_85 hl (k := 1) rfl (by rw [ev_13]; rfl) (by decide) rfl (fun ls hl => ?_)
                      refine lv_goto (tgt := 64) hx hb dX0_renew_88 (by decide) ?_
                      exact hOut _ _ _ _ _ (ih_64 v_13 _ _ _ (pf_X0_renew_22 bw pts fw fl fd fh fg fs n_2 k gg n_50 k1 k2 gs v_3 v_4 n_64 k3 r_7 v_10 v_13 hs hg0 hwm hb0 hb20 hdg hth hn_2 hk1 hk2 hgg c_1 hn_50 hk3 hk4 hk5 hk7 hgs hfs hpp c_2 ev_3 ev_4 hn_64 hk6 hk8 hk9 hp3 c_5 w_8 ev_10 c_11 ev_13) (pf_X0_renew_23 bw pts fw fl fd fh fg fs n_2 k gg n_50 k1 k2 gs v_3 v_4 n_64 k3 r_7 v_10 v_13 hs hg0 hwm hb0 hb20 hdg hth hn_2 hk1 hk2 hgg c_1 hn_50 hk3 hk4 hk5 hk7 hgs hfs hpp c_2 ev_3 ev_4 hn_64 hk6 hk8 hk9 hp3 c_5 w_8 ev_10 c_11 ev_13) (pf_X0_renew_24 bw pts fw fl fd fh fg fs n_2 k gg n_50 k1 k2 gs v_3 v_4 n_64 k3 r_7 v_10 v_13 hs hg0 hwm hb0 hb20 hdg hth hn_2 hk1 hk2 hgg c_1 hn_50 hk3 hk4 hk5 hk7 hgs hfs hpp c_2 ev_3 ev_4 hn_64 hk6 hk8 hk9 hp3 c_5 w_8 ev_10 c_11 ev_13) (pf_X0_renew_25 bw pts fw fl fd fh fg fs n_2 k gg n_50 k1 k2 gs v_3 v_4 n_64 k3 r_7 v_10 v_13 hs hg0 hwm hb0 hb20 hdg hth hn_2 hk1 hk2 hgg c_1 hn_50 hk3 hk4 hk5 hk7 hgs hfs hpp c_2 ev_3 ev_4 hn_64 hk6 hk8 hk9 hp3 c_5 w_8 ev_10 c_11 ev_13) (pf_X0_renew_26 bw pts fw fl fd fh fg fs n_2 k gg n_50 k1 k2 gs v_3 v_4 n_64 k3 r_7 v_10 v_13 hs hg0 hwm hb0 hb20 hdg hth hn_2 hk1 hk2 hgg c_1 hn_50 hk3 hk4 hk5 hk7 hgs hfs hpp c_2 ev_3 ev_4 hn_64 hk6 hk8 hk9 hp3 c_5 w_8 ev_10 c_11 ev_13) (hP.sub [3, 0, 1, 4, 5, 6, 2] rfl) (hD.sub [3, 0, 1, 4, 5, 6, 2] (by decide) rfl) hS (lv_sub hl [1, 0, 2] rfl))
              exact hOut _ _ _ _ _ (lp_64 (40 - v_4.toNatClampNeg + 1) v_4 _ _ _ (Nat.lt_succ_self _) (pf_X0_renew_27 bw pts fw fl fd fh fg fs n_2 k gg n_50 k1 k2 gs v_3 v_4 hs hg0 hwm hb0 hb20 hdg hth hn_2 hk1 hk2 hgg c_1 hn_50 hk3 hk4 hk5 hk7 hgs hfs hpp c_2 ev_3 ev_4) (pf_X0_renew_28 bw pts fw fl fd fh fg fs n_2 k gg n_50 k1 k2 gs v_3 v_4 hs hg0 hwm hb0 hb20 hdg hth hn_2 hk1 hk2 hgg c_1 hn_50 hk3 hk4 hk5 hk7 hgs hfs hpp c_2 ev_3 ev_4) (pf_X0_renew_29 bw pts fw fl fd fh fg fs n_2 k gg n_50 k1 k2 gs v_3 v_4 hs hg0 hwm hb0 hb20 hdg hth hn_2 hk1 hk2 hgg c_1 hn_50 hk3 hk4 hk5 hk7 hgs hfs hpp c_2 ev_3 ev_4) (pf_X0_renew_30 bw pts fw fl fd fh fg fs n_2 k gg n_50 k1 k2 gs v_3 v_4 hs hg0 hwm hb0 hb20 hdg hth hn_2 hk1 hk2 hgg c_1 hn_50 hk3 hk4 hk5 hk7 hgs hfs hpp c_2 ev_3 ev_4) (hP.sub [0, 1, 2, 3, 4, 5, 6] rfl) (hD.sub [0, 1, 2, 3, 4, 5, 6] (by decide) rfl) hS (lv_sub hl [1, 0, 2] rfl))
        exact hOut _ _ _ _ _ (lp_50 (40 - (0 : Int32).toNatClampNeg + 1) 0 0 fs _ _ _ (Nat.lt_succ_self _) (pf_X0_renew_31 bw pts fw fd fh fg fs n_2 k gg hs hg0 hwm hb0 hb20 hdg hth hn_2 hk1 hk2 hgg c_1) (pf_X0_renew_32 bw pts fw fd fh fg fs n_2 k gg hs hg0 hwm hb0 hb20 hdg hth hn_2 hk1 hk2 hgg c_1) (pf_X0_renew_33 bw pts fw fd fh fg fs n_2 k gg hs hg0 hwm hb0 hb20 hdg hth hn_2 hk1 hk2 hgg c_1) (pf_X0_renew_34 bw pts fw fd fh fg fs n_2 k gg hs hg0 hwm hb0 hb20 hdg hth hn_2 hk1 hk2 hgg c_1) (pf_X0_renew_35 bw pts fw fd fh fg fs n_2 k gg hs hg0 hwm hb0 hb20 hdg hth hn_2 hk1 hk2 hgg c_1) (pf_X0_renew_36 bw pts fw fl fd fh fg fs n_2 k gg hs hg0 hwm hb0 hb20 hdg hth hn_2 hk1 hk2 hgg c_1) (pf_X0_renew_37 bw pts fw fl fd fh fg fs n_2 k gg hs hg0 hwm hb0 hb20 hdg hth hn_2 hk1 hk2 hgg c_1) (hP.sub [0, 1, 2, 3, 4, 5, 6] rfl) (hD.sub [0, 1, 2, 3, 4, 5, 6] (by decide) rfl) hS (lv_sub hl [2, 1, 0] rfl))
      · refine lv_aload_n hx hb dX0_renew_8 rfl (lv_at hl 0 rfl) ?_
        refine va_get (D := D) (ci := 0) (v := .ref a4) (C := RX0) (T := TX0) (N := 8) hx hb hts iw_X0_renew_0 hown hK hP 0 rfl rfl 4 (by decide) (hts _ wd_X0_renew_1) (fun _ h9 => h9) rfl dX0_renew_9 ?_
        refine lv_iload_n hx hb dX0_renew_12 rfl (lv_at hl 1 rfl) ?_
        refine lv_aload_n hx hb dX0_renew_13 rfl (lv_at hl 0 rfl) ?_
        refine va_get (D := D) (ci := 0) (v := .ref a4) (C := RX0) (T := TX0) (N := 8) hx hb hts iw_X0_renew_0 hown hK hP 0 rfl rfl 4 (by decide) (hts _ wd_X0_renew_1) (fun _ h9 => h9) rfl dX0_renew_14 ?_
        refine lv_iload_n hx hb dX0_renew_17 rfl (lv_at hl 1 rfl) ?_
        refine lv_iconst (v := 1) hx hb dX0_renew_18 (by decide) ?_
        refine lv_isub hx hb dX0_renew_19 ?_
        refine lv_topi (fun v_14 ev_14 => ?_)
        refine va_iald hx hb hK hP 5 0 rfl rfl (pf_X0_renew_38 bw pts fw fd fh fg fs n_2 k gg v_14 hs hg0 hwm hb0 hb20 hdg hth hn_2 hk1 hk2 hgg c_1 ev_14) dX0_renew_20 ?_
        refine lv_topi (fun v_15 ev_15 => ?_)
        refine lv_iconst (v := 0) hx hb dX0_renew_21 (by decide) ?_
        refine lv_aload_n hx hb dX0_renew_22 rfl (lv_at hl 0 rfl) ?_
        refine va_get (D := D) (ci := 0) (v := .ref a0) (C := RX0) (T := TX0) (N := 8) hx hb hts iw_X0_renew_0 hown hK hP 0 rfl rfl 0 (by decide) (hts _ wd_X0_renew_2) (fun _ h9 => h9) rfl dX0_renew_23 ?_
        refine lv_iload_n hx hb dX0_renew_26 rfl (lv_at hl 1 rfl) ?_
        refine lv_iconst (v := 1) hx hb dX0_renew_27 (by decide) ?_
        refine lv_isub hx hb dX0_renew_28 ?_
        refine lv_topi (fun v_16 ev_16 => ?_)
        refine va_iald hx hb hK hP 1 0 rfl rfl (pf_X0_renew_39 bw pts fw fd fh fg fs n_2 k gg v_14 v_15 v_16 hs hg0 hwm hb0 hb20 hdg hth hn_2 hk1 hk2 hgg c_1 ev_14 ev_15 ev_16) dX0_renew_29 ?_
        refine lv_topi (fun v_17 ev_17 => ?_)
        refine lv_aload_n hx hb dX0_renew_30 rfl (lv_at hl 0 rfl) ?_
        refine va_get (D := D) (ci := 0) (v := .int bw) (C := RX0) (T := TX0) (N := 8) hx hb hts iw_X0_renew_0 hown hK hP 0 rfl rfl 6 (by decide) (hts _ wd_X0_renew_3) (fun _ h9 => h9) rfl dX0_renew_31 ?_
        refine lv_isub hx hb dX0_renew_34 ?_
        refine lv_topi (fun v_18 ev_18 => ?_)
        refine va_mmax hx hb (by rw [hml]; exact hl.1.symm) hown (hts _ wd_X0_renew_4) (hts _ wd_X0_renew_5) (hts _ wd_X0_renew_6) (hts _ wd_X0_renew_7) (Nat.le_of_ble_eq_true rfl) (Nat.le_of_ble_eq_true rfl) (Nat.le_of_ble_eq_true rfl) (Nat.le_of_ble_eq_true rfl) dX0_renew_35 ?_
        refine lv_topi (fun v_19 ev_19 => ?_)
        refine lv_iadd hx hb dX0_renew_38 ?_
        refine lv_topi (fun v_20 ev_20 => ?_)
        refine va_iast hx hb hK hP hD hS 5 0 rfl rfl (pf_X0_renew_40 bw pts fw fd fh fg fs n_2 k gg v_14 v_15 v_16 v_17 v_18 v_19 v_20 hs hg0 hwm hb0 hb20 hdg hth hn_2 hk1 hk2 hgg c_1 ev_14 ev_15 ev_16 ev_17 ev_18 ev_19 ev_20) dX0_renew_39 (fun H locs hP hD hS => ?_)
        have hP : va_P D vwCl [(h0, .inr (0, [.ref a0, .ref a1, .ref a2, .ref a3, .ref a4, .ref a5, .int bw, .int pts])), (a0, .inl (cI, 40, .inl fw)), (a1, .inl (cI, 2, .inl fl)), (a2, .inl (cI, 6, .inl fd)), (a3, .inl (cI, 6, .inl fh)), (a4, .inl (cI, 40, .inl (upd gg k.toNatClampNeg v_20))), (a5, .inl (cI, 40, .inl fs))] H := hP
        have hD : va_D A [(h0, .inr (0, [.ref a0, .ref a1, .ref a2, .ref a3, .ref a4, .ref a5, .int bw, .int pts])), (a0, .inl (cI, 40, .inl fw)), (a1, .inl (cI, 2, .inl fl)), (a2, .inl (cI, 6, .inl fd)), (a3, .inl (cI, 6, .inl fh)), (a4, .inl (cI, 40, .inl (upd gg k.toNatClampNeg v_20))), (a5, .inl (cI, 40, .inl fs))] := hD
        obtain ⟨v_21, ev_21⟩ : ∃ y : Int32, y = k + 1 := ⟨_, rfl⟩
        refine lv_iinc (v := v_21) (lv' := [(1, .int v_21), (0, .ref h0)]) hx hb dX0_renew_40 hl (k := 1) rfl (by rw [ev_21]; rfl) (by decide) rfl (fun ls hl => ?_)
        refine lv_goto (tgt := 2) hx hb dX0_renew_43 (by decide) ?_
        exact hOut _ _ _ _ _ (ih_2 v_21 (upd gg k.toNatClampNeg v_20) _ _ _ (pf_X0_renew_41 bw pts fw fd fh fg fs n_2 k gg v_14 v_15 v_16 v_17 v_18 v_19 v_20 v_21 hs hg0 hwm hb0 hb20 hdg hth hn_2 hk1 hk2 hgg c_1 ev_14 ev_15 ev_16 ev_17 ev_18 ev_19 ev_20 ev_21) (pf_X0_renew_42 bw pts fw fd fh fg fs n_2 k gg v_14 v_15 v_16 v_17 v_18 v_19 v_20 v_21 hs hg0 hwm hb0 hb20 hdg hth hn_2 hk1 hk2 hgg c_1 ev_14 ev_15 ev_16 ev_17 ev_18 ev_19 ev_20 ev_21) (pf_X0_renew_43 bw pts fw fd fh fg fs n_2 k gg v_14 v_15 v_16 v_17 v_18 v_19 v_20 v_21 hs hg0 hwm hb0 hb20 hdg hth hn_2 hk1 hk2 hgg c_1 ev_14 ev_15 ev_16 ev_17 ev_18 ev_19 ev_20 ev_21) (pf_X0_renew_44 bw pts fw fd fh fg fs n_2 k gg v_14 v_15 v_16 v_17 v_18 v_19 v_20 v_21 hs hg0 hwm hb0 hb20 hdg hth hn_2 hk1 hk2 hgg c_1 ev_14 ev_15 ev_16 ev_17 ev_18 ev_19 ev_20 ev_21) (hP.sub [0, 1, 2, 3, 4, 5, 6] rfl) (hD.sub [0, 1, 2, 3, 4, 5, 6] (by decide) rfl) hS (lv_sub hl [1, 0] rfl))
  exact hOut _ _ _ _ _ (lp_2 (40 - (1 : Int32).toNatClampNeg + 1) 1 fg _ _ _ (Nat.lt_succ_self _) (pf_X0_renew_45 bw pts fw fd fh fg fs hs hg0 hwm hb0 hb20 hdg hth) (pf_X0_renew_46 bw pts fw fd fh fg fs hs hg0 hwm hb0 hb20 hdg hth) (pf_X0_renew_47 bw pts fw fd fh fg fs hs hg0 hwm hb0 hb20 hdg hth) (hP.sub [0, 1, 2, 3, 4, 5, 6] rfl) (hD.sub [0, 1, 2, 3, 4, 5, 6] (by decide) rfl) hS (lv_sub hl [1, 0] rfl))

theorem iw_X0_init_0 : ∀ w ∈ wsX00, w ∈ wsX0_init := fun w h => (List.mem_cons_of_mem _ (List.mem_append_right _ h))
theorem wd_X0_init_1 : (.methodLink RX0 3 objectInit : Cond) ∈ wsX0_init := List.mem_of_getElem? (i := 1) rfl
theorem wd_X0_init_2 : (.instanceMethod objectInit : Cond) ∈ wsX0_init := List.mem_of_getElem? (i := 2) rfl
theorem wd_X0_init_3 : (.code objectInit ⟨#[0xb1]⟩ 1 none : Cond) ∈ wsX0_init := List.mem_of_getElem? (i := 3) rfl
theorem wd_X0_init_4 : (.arrayClass .int : Cond) ∈ wsX0_init := List.mem_of_getElem? (i := 4) rfl
theorem wd_X0_init_5 : (.fieldLink RX0 9 "PourPlan$Curing" "warmth" "[I" : Cond) ∈ wsX0_init := List.mem_of_getElem? (i := 5) rfl
theorem wd_X0_init_6 : (.fieldLink RX0 15 "PourPlan$Curing" "levels" "[I" : Cond) ∈ wsX0_init := List.mem_of_getElem? (i := 6) rfl
theorem wd_X0_init_7 : (.fieldLink RX0 18 "PourPlan$Curing" "pointDegrees" "[I" : Cond) ∈ wsX0_init := List.mem_of_getElem? (i := 7) rfl
theorem wd_X0_init_8 : (.fieldLink RX0 21 "PourPlan$Curing" "pointHardness" "[I" : Cond) ∈ wsX0_init := List.mem_of_getElem? (i := 8) rfl
theorem wd_X0_init_9 : (.fieldLink RX0 24 "PourPlan$Curing" "degreesAhead" "[I" : Cond) ∈ wsX0_init := List.mem_of_getElem? (i := 9) rfl
theorem wd_X0_init_10 : (.fieldLink RX0 27 "PourPlan$Curing" "stripDays" "[I" : Cond) ∈ wsX0_init := List.mem_of_getElem? (i := 10) rfl
theorem wd_X0_init_11 : (.fieldLink RX0 30 "PourPlan$Curing" "baseWarmth" "I" : Cond) ∈ wsX0_init := List.mem_of_getElem? (i := 11) rfl
theorem wd_X0_init_12 : (.fieldLink RX0 34 "PourPlan$Curing" "points" "I" : Cond) ∈ wsX0_init := List.mem_of_getElem? (i := 12) rfl
set_option maxHeartbeats 1000000 in
theorem pf_X0_init_1 (n_75 : Nat) (i : Nat) (k : Int32) (gw : Nat → Int32) (hn_75 : 40 - i < n_75 + 1) (ek : k = nI i) (hi : i ≤ 40) (hw : ∀ j, j < i → gw j = 20) (vw : okWm gw) (c_7 : 40 ≤ k) : okS (fun _ => (0 : Int32)) := by
  intro i9
  show (0 : Int32) ≤ 40
  decide
set_option maxHeartbeats 1000000 in
theorem pf_X0_init_2 (n_75 : Nat) (i : Nat) (k : Int32) (gw : Nat → Int32) (hn_75 : 40 - i < n_75 + 1) (ek : k = nI i) (hi : i ≤ 40) (hw : ∀ j, j < i → gw j = 20) (vw : okWm gw) (c_7 : 40 ≤ k) : (fun _ => (0 : Int32)) 0 = 0 := by
  rfl
set_option maxHeartbeats 1000000 in
theorem pf_X0_init_3 (n_75 : Nat) (i : Nat) (k : Int32) (gw : Nat → Int32) (hn_75 : 40 - i < n_75 + 1) (ek : k = nI i) (hi : i ≤ 40) (hw : ∀ j, j < i → gw j = 20) (vw : okWm gw) (c_7 : 40 ≤ k) : okWm gw := by
  exact vw
set_option maxHeartbeats 1000000 in
theorem pf_X0_init_4 (n_75 : Nat) (i : Nat) (k : Int32) (gw : Nat → Int32) (hn_75 : 40 - i < n_75 + 1) (ek : k = nI i) (hi : i ≤ 40) (hw : ∀ j, j < i → gw j = 20) (vw : okWm gw) (c_7 : 40 ≤ k) : 0 ≤ (0 : Int32) := by
  decide
set_option maxHeartbeats 1000000 in
theorem pf_X0_init_5 (n_75 : Nat) (i : Nat) (k : Int32) (gw : Nat → Int32) (hn_75 : 40 - i < n_75 + 1) (ek : k = nI i) (hi : i ≤ 40) (hw : ∀ j, j < i → gw j = 20) (vw : okWm gw) (c_7 : 40 ≤ k) : (0 : Int32) ≤ 20 := by
  decide
set_option maxHeartbeats 1000000 in
theorem pf_X0_init_6 (n_75 : Nat) (i : Nat) (k : Int32) (gw : Nat → Int32) (hn_75 : 40 - i < n_75 + 1) (ek : k = nI i) (hi : i ≤ 40) (hw : ∀ j, j < i → gw j = 20) (vw : okWm gw) (c_7 : 40 ≤ k) : okDeg (fun _ => (0 : Int32)) (0 : Int32) := by
  exact okDeg_0 (by decide)
set_option maxHeartbeats 1000000 in
theorem pf_X0_init_7 (n_75 : Nat) (i : Nat) (k : Int32) (gw : Nat → Int32) (hn_75 : 40 - i < n_75 + 1) (ek : k = nI i) (hi : i ≤ 40) (hw : ∀ j, j < i → gw j = 20) (vw : okWm gw) (c_7 : 40 ≤ k) : okTh (fun _ => (0 : Int32)) (0 : Int32) := by
  exact okTh_0 (by decide)
set_option maxHeartbeats 1000000 in
theorem pf_X0_init_8 (n_75 : Nat) (i : Nat) (k : Int32) (gw : Nat → Int32) (fg2_10 : Nat → Int32) (fs2_11 : Nat → Int32) (hn_75 : 40 - i < n_75 + 1) (ek : k = nI i) (hi : i ≤ 40) (hw : ∀ j, j < i → gw j = 20) (vw : okWm gw) (c_7 : 40 ≤ k) (h_12 : okS fs2_11) (h_13 : okFg gw (0 : Int32) fg2_10) (h_14 : okFs gw (0 : Int32) (fun _ => (0 : Int32)) (fun _ => (0 : Int32)) (0 : Int32) ((upd (upd (fun _ => (0 : Int32)) 0 500) 1 300) 0) fs2_11) : (∀ j, j < 40 → gw j = 20) := by
  intro j hj
  exact hw j (lp_ge (N := 40) ek hi (by omega) (by assumption) hj)
set_option maxHeartbeats 1000000 in
theorem pf_X0_init_9 (n_75 : Nat) (i : Nat) (k : Int32) (gw : Nat → Int32) (fg2_10 : Nat → Int32) (fs2_11 : Nat → Int32) (hn_75 : 40 - i < n_75 + 1) (ek : k = nI i) (hi : i ≤ 40) (hw : ∀ j, j < i → gw j = 20) (vw : okWm gw) (c_7 : 40 ≤ k) (h_12 : okS fs2_11) (h_13 : okFg gw (0 : Int32) fg2_10) (h_14 : okFs gw (0 : Int32) (fun _ => (0 : Int32)) (fun _ => (0 : Int32)) (0 : Int32) ((upd (upd (fun _ => (0 : Int32)) 0 500) 1 300) 0) fs2_11) : (upd (upd (fun _ => (0 : Int32)) 0 500) 1 300) 0 = 500 := by
  simp [upd]
set_option maxHeartbeats 1000000 in
theorem pf_X0_init_10 (n_75 : Nat) (i : Nat) (k : Int32) (gw : Nat → Int32) (fg2_10 : Nat → Int32) (fs2_11 : Nat → Int32) (hn_75 : 40 - i < n_75 + 1) (ek : k = nI i) (hi : i ≤ 40) (hw : ∀ j, j < i → gw j = 20) (vw : okWm gw) (c_7 : 40 ≤ k) (h_12 : okS fs2_11) (h_13 : okFg gw (0 : Int32) fg2_10) (h_14 : okFs gw (0 : Int32) (fun _ => (0 : Int32)) (fun _ => (0 : Int32)) (0 : Int32) ((upd (upd (fun _ => (0 : Int32)) 0 500) 1 300) 0) fs2_11) : (upd (upd (fun _ => (0 : Int32)) 0 500) 1 300) 1 = 300 := by
  simp [upd]
set_option maxHeartbeats 1000000 in
theorem pf_X0_init_11 (n_75 : Nat) (i : Nat) (k : Int32) (gw : Nat → Int32) (fg2_10 : Nat → Int32) (fs2_11 : Nat → Int32) (hn_75 : 40 - i < n_75 + 1) (ek : k = nI i) (hi : i ≤ 40) (hw : ∀ j, j < i → gw j = 20) (vw : okWm gw) (c_7 : 40 ≤ k) (h_12 : okS fs2_11) (h_13 : okFg gw (0 : Int32) fg2_10) (h_14 : okFs gw (0 : Int32) (fun _ => (0 : Int32)) (fun _ => (0 : Int32)) (0 : Int32) ((upd (upd (fun _ => (0 : Int32)) 0 500) 1 300) 0) fs2_11) : okS fs2_11 := by
  assumption
set_option maxHeartbeats 1000000 in
theorem pf_X0_init_12 (n_75 : Nat) (i : Nat) (k : Int32) (gw : Nat → Int32) (fg2_10 : Nat → Int32) (fs2_11 : Nat → Int32) (hn_75 : 40 - i < n_75 + 1) (ek : k = nI i) (hi : i ≤ 40) (hw : ∀ j, j < i → gw j = 20) (vw : okWm gw) (c_7 : 40 ≤ k) (h_12 : okS fs2_11) (h_13 : okFg gw (0 : Int32) fg2_10) (h_14 : okFs gw (0 : Int32) (fun _ => (0 : Int32)) (fun _ => (0 : Int32)) (0 : Int32) ((upd (upd (fun _ => (0 : Int32)) 0 500) 1 300) 0) fs2_11) : okWm gw := by
  exact vw
set_option maxHeartbeats 1000000 in
theorem pf_X0_init_13 (n_75 : Nat) (i : Nat) (k : Int32) (gw : Nat → Int32) (fg2_10 : Nat → Int32) (fs2_11 : Nat → Int32) (hn_75 : 40 - i < n_75 + 1) (ek : k = nI i) (hi : i ≤ 40) (hw : ∀ j, j < i → gw j = 20) (vw : okWm gw) (c_7 : 40 ≤ k) (h_12 : okS fs2_11) (h_13 : okFg gw (0 : Int32) fg2_10) (h_14 : okFs gw (0 : Int32) (fun _ => (0 : Int32)) (fun _ => (0 : Int32)) (0 : Int32) ((upd (upd (fun _ => (0 : Int32)) 0 500) 1 300) 0) fs2_11) : okFg gw 0 fg2_10 := by
  assumption
set_option maxHeartbeats 1000000 in
theorem pf_X0_init_14 (n_75 : Nat) (i : Nat) (k : Int32) (gw : Nat → Int32) (fg2_10 : Nat → Int32) (fs2_11 : Nat → Int32) (hn_75 : 40 - i < n_75 + 1) (ek : k = nI i) (hi : i ≤ 40) (hw : ∀ j, j < i → gw j = 20) (vw : okWm gw) (c_7 : 40 ≤ k) (h_12 : okS fs2_11) (h_13 : okFg gw (0 : Int32) fg2_10) (h_14 : okFs gw (0 : Int32) (fun _ => (0 : Int32)) (fun _ => (0 : Int32)) (0 : Int32) ((upd (upd (fun _ => (0 : Int32)) 0 500) 1 300) 0) fs2_11) : okFs gw 0 (fun _ => (0 : Int32)) (fun _ => (0 : Int32)) 0 ((upd (upd (fun _ => (0 : Int32)) 0 500) 1 300) 0) fs2_11 := by
  assumption
set_option maxHeartbeats 1000000 in
theorem pf_X0_init_15 (n_75 : Nat) (i : Nat) (k : Int32) (gw : Nat → Int32) (hn_75 : 40 - i < n_75 + 1) (ek : k = nI i) (hi : i ≤ 40) (hw : ∀ j, j < i → gw j = 20) (vw : okWm gw) (c_7 : ¬ 40 ≤ k) : vp_in k 40 := by
  exact lp_in (N := 40) ek hi (by omega) (by assumption)
set_option maxHeartbeats 1000000 in
theorem pf_X0_init_16 (n_75 : Nat) (i : Nat) (k : Int32) (gw : Nat → Int32) (v_15 : Int32) (hn_75 : 40 - i < n_75 + 1) (ek : k = nI i) (hi : i ≤ 40) (hw : ∀ j, j < i → gw j = 20) (vw : okWm gw) (c_7 : ¬ 40 ≤ k) (ev_15 : v_15 = k + 1) : 40 - (i + 1) < n_75 := by
  have := lp_lt (N := 40) ek hi (by omega) (by assumption)
  omega
set_option maxHeartbeats 1000000 in
theorem pf_X0_init_17 (n_75 : Nat) (i : Nat) (k : Int32) (gw : Nat → Int32) (v_15 : Int32) (hn_75 : 40 - i < n_75 + 1) (ek : k = nI i) (hi : i ≤ 40) (hw : ∀ j, j < i → gw j = 20) (vw : okWm gw) (c_7 : ¬ 40 ≤ k) (ev_15 : v_15 = k + 1) : v_15 = nI (i + 1) := by
  subst_vars
  exact nI_1 i
set_option maxHeartbeats 1000000 in
theorem pf_X0_init_18 (n_75 : Nat) (i : Nat) (k : Int32) (gw : Nat → Int32) (v_15 : Int32) (hn_75 : 40 - i < n_75 + 1) (ek : k = nI i) (hi : i ≤ 40) (hw : ∀ j, j < i → gw j = 20) (vw : okWm gw) (c_7 : ¬ 40 ≤ k) (ev_15 : v_15 = k + 1) : (i + 1) ≤ 40 := by
  have := lp_lt (N := 40) ek hi (by omega) (by assumption)
  omega
set_option maxHeartbeats 1000000 in
theorem pf_X0_init_19 (n_75 : Nat) (i : Nat) (k : Int32) (gw : Nat → Int32) (v_15 : Int32) (hn_75 : 40 - i < n_75 + 1) (ek : k = nI i) (hi : i ≤ 40) (hw : ∀ j, j < i → gw j = 20) (vw : okWm gw) (c_7 : ¬ 40 ≤ k) (ev_15 : v_15 = k + 1) : ∀ j, j < (i + 1) → (upd gw k.toNatClampNeg 20) j = 20 := by
  intro j hj
  rw [nI_cl ek (by omega)]
  unfold upd
  split
  · rfl
  · exact hw j (by omega)
set_option maxHeartbeats 1000000 in
theorem pf_X0_init_20 (n_75 : Nat) (i : Nat) (k : Int32) (gw : Nat → Int32) (v_15 : Int32) (hn_75 : 40 - i < n_75 + 1) (ek : k = nI i) (hi : i ≤ 40) (hw : ∀ j, j < i → gw j = 20) (vw : okWm gw) (c_7 : ¬ 40 ≤ k) (ev_15 : v_15 = k + 1) : okWm (upd gw k.toNatClampNeg 20) := by
  intro j
  unfold upd
  split
  · decide
  · exact vw j
set_option maxHeartbeats 1000000 in
theorem pf_X0_init_21   : (0 : Int32) = nI 0 := by
  exact nI_0.symm
set_option maxHeartbeats 1000000 in
theorem pf_X0_init_22   : 0 ≤ 40 := by
  omega
set_option maxHeartbeats 1000000 in
theorem pf_X0_init_23   : ∀ j, j < 0 → (fun _ => (0 : Int32)) j = 20 := by
  omega
set_option maxHeartbeats 1000000 in
theorem pf_X0_init_24   : okWm (fun _ => (0 : Int32)) := by
  intro j
  show (-30 : Int32) ≤ 0 ∧ (0 : Int32) ≤ 50
  decide
set_option maxHeartbeats 4000000 in
set_option maxRecDepth 100000 in
theorem c_X0_init (l : Launch) (D : va_G) (cI cQ : ClassId) (sz : Nat) (h0 : Nat) : CtV l yX0_init wsX0_init 3 70 6 134 [.ref h0] D [(cI, .int), (cQ, .array .int)] [(h0, .inr (0, [.null, .null, .null, .null, .null, .null, .int 0, .int 0]))] sz (fun (u : Nat × Nat × Nat × Nat × Nat × Nat × (Nat → Int32) × (Nat → Int32) × (Nat → Int32) × (Nat → Int32) × (Nat → Int32) × (Nat → Int32)) => (∀ j, j < 40 → u.2.2.2.2.2.2.1 j = 20) ∧ u.2.2.2.2.2.2.2.1 0 = 500 ∧ u.2.2.2.2.2.2.2.1 1 = 300 ∧ okS u.2.2.2.2.2.2.2.2.2.2.2 ∧ okWm u.2.2.2.2.2.2.1 ∧ okFg u.2.2.2.2.2.2.1 0 u.2.2.2.2.2.2.2.2.2.2.1 ∧ okFs u.2.2.2.2.2.2.1 0 u.2.2.2.2.2.2.2.2.1 u.2.2.2.2.2.2.2.2.2.1 0 (u.2.2.2.2.2.2.2.1 0) u.2.2.2.2.2.2.2.2.2.2.2) (fun (u : Nat × Nat × Nat × Nat × Nat × Nat × (Nat → Int32) × (Nat → Int32) × (Nat → Int32) × (Nat → Int32) × (Nat → Int32) × (Nat → Int32)) => [(h0, .inr (0, [.ref u.1, .ref u.2.1, .ref u.2.2.1, .ref u.2.2.2.1, .ref u.2.2.2.2.1, .ref u.2.2.2.2.2.1, .int 0, .int 0])), (u.1, .inl (cI, 40, .inl u.2.2.2.2.2.2.1)), (u.2.1, .inl (cI, 2, .inl u.2.2.2.2.2.2.2.1)), (u.2.2.1, .inl (cI, 6, .inl u.2.2.2.2.2.2.2.2.1)), (u.2.2.2.1, .inl (cI, 6, .inl u.2.2.2.2.2.2.2.2.2.1)), (u.2.2.2.2.1, .inl (cI, 40, .inl u.2.2.2.2.2.2.2.2.2.2.1)), (u.2.2.2.2.2.1, .inl (cI, 40, .inl u.2.2.2.2.2.2.2.2.2.2.2))]) := by
  refine Met.ofW (cc := cX0_init) (maxL := 2) (ret := none) (by decide) rfl ?_
  intro p e s m args below meth c s₁ B hml hv
  obtain ⟨rfl, hsz, hP, hK, hD0, hN⟩ := hv
  have hx := B.exec
  have hb := B.bytes
  have hr := B.returns
  have hts := atoms_spec (ws := wsX0_init) B.pre
  have hown : s.vm.findClass RX0 = some m.cls := findClass_of_methodNamed B.named
  have hlocks := B.notSynchronized
  have hin : meth.name = "<init>" := (name_of_methodNamed B.named B.method).1
  subst hsz
  have hD := hD0.self (sz := s.heap.size)
  generalize hAe : va_A [(h0, .inr (0, [.null, .null, .null, .null, .null, .null, .int 0, .int 0]))] s.heap.size = A at hD ⊢
  have hA : ∀ q : Nat, s.heap.size ≤ q → A q := fun q h => by rw [← hAe]; exact Or.inr h
  have hS : va_S A s.heap s.heap [] := va_S.rf
  have hl := lv_entry ([.ref h0]) (n := 2) (Nat.le_of_ble_eq_true rfl)
  rw [lg_entry_eq]
  generalize (lg_sl ([.ref h0]) ++ List.replicate (2 - (lg_sl ([.ref h0])).length) Slot.unset).toArray = ls at hl ⊢
  have hl : lv_has ls 2 [(0, .ref h0)] := hl
  refine W_gen (fun GW hIn hOut => ?_)
  refine hIn _ _ _ _ _ ?_
  have hP0 := hP
  refine lv_aload_n hx hb dX0_init_0 rfl (lv_at hl 0 rfl) ?_
  refine W.objInit hx hb hown (hts _ wd_X0_init_1) (hts _ wd_X0_init_2) (hts _ wd_X0_init_3) rfl (by rw [hml]; exact hl.1) rfl dX0_init_1 (Nat.le_of_ble_eq_true rfl) (Nat.le_of_ble_eq_true rfl) ?_
  refine W.eq (g2 := F0 m 4 ls []) rfl ?_
  refine lv_aload_n hx hb dX0_init_4 rfl (lv_at hl 0 rfl) ?_
  refine lv_bipush (v := 40) hx hb dX0_init_5 (by decide) ?_
  refine va_newa (atype := .int) (a0 := (40, .inl (fun _ => (0 : Int32)))) (N' := 40) hx hb (hts _ wd_X0_init_4) rfl hK hP hD hS hA (fun _ => rfl) (by decide) (by decide) (by decide) (Nat.le_of_ble_eq_true rfl) (Nat.le_of_ble_eq_true rfl) dX0_init_7 (fun q_1 cA H hK hP hD hS => ?_)
  have ecA := (cA_is (t0 := 0) (t1 := 2) hK rfl rfl).symm
  subst ecA
  have hK := hK.sub (tys' := [(cI, .int), (cQ, .array .int)]) [0, 1] rfl
  have hP : va_P D vwCl [(h0, .inr (0, [.null, .null, .null, .null, .null, .null, .int 0, .int 0])), (q_1, .inl (cI, 40, .inl (fun _ => (0 : Int32))))] H := hP
  have hD : va_D A [(h0, .inr (0, [.null, .null, .null, .null, .null, .null, .int 0, .int 0])), (q_1, .inl (cI, 40, .inl (fun _ => (0 : Int32))))] := hD
  refine W.widen (k := 1) (n := 40) (Nat.le_of_ble_eq_true rfl) (Nat.le_of_ble_eq_true rfl) ?_
  refine va_putF (D := D) (ci := 0) (v := .ref q_1) (ty := .array .int) (C := RX0) (T := TX0) (N := 8) hx hb hts iw_X0_init_0 tyX0 tyX0_ok nmX0 hown hK hP hD hS 0 rfl rfl 0 (by decide) (hts _ wd_X0_init_5) (fun _ h9 => h9) rfl hin rfl (by decide +kernel) rfl rfl (Nat.le_of_ble_eq_true rfl) dX0_init_9 (fun H locs hP hD hS => ?_)
  have hP : va_P D vwCl [(h0, .inr (0, [.ref q_1, .null, .null, .null, .null, .null, .int 0, .int 0])), (q_1, .inl (cI, 40, .inl (fun _ => (0 : Int32))))] H := hP
  have hD : va_D A [(h0, .inr (0, [.ref q_1, .null, .null, .null, .null, .null, .int 0, .int 0])), (q_1, .inl (cI, 40, .inl (fun _ => (0 : Int32))))] := hD
  refine lv_aload_n hx hb dX0_init_12 rfl (lv_at hl 0 rfl) ?_
  refine lv_iconst (v := 2) hx hb dX0_init_13 (by decide) ?_
  refine va_newa (atype := .int) (a0 := (2, .inl (fun _ => (0 : Int32)))) (N' := 2) hx hb (hts _ wd_X0_init_4) rfl hK hP hD hS hA (fun _ => rfl) (by decide) (by decide) (by decide) (Nat.le_of_ble_eq_true rfl) (Nat.le_of_ble_eq_true rfl) dX0_init_14 (fun q_2 cA H hK hP hD hS => ?_)
  have ecA := (cA_is (t0 := 0) (t1 := 2) hK rfl rfl).symm
  subst ecA
  have hK := hK.sub (tys' := [(cI, .int), (cQ, .array .int)]) [0, 1] rfl
  have hP : va_P D vwCl [(h0, .inr (0, [.ref q_1, .null, .null, .null, .null, .null, .int 0, .int 0])), (q_1, .inl (cI, 40, .inl (fun _ => (0 : Int32)))), (q_2, .inl (cI, 2, .inl (fun _ => (0 : Int32))))] H := hP
  have hD : va_D A [(h0, .inr (0, [.ref q_1, .null, .null, .null, .null, .null, .int 0, .int 0])), (q_1, .inl (cI, 40, .inl (fun _ => (0 : Int32)))), (q_2, .inl (cI, 2, .inl (fun _ => (0 : Int32))))] := hD
  refine W.widen (k := 2) (n := 42) (Nat.le_of_ble_eq_true rfl) (Nat.le_of_ble_eq_true rfl) ?_
  refine lv_dup hx hb dX0_init_16 rfl ?_
  refine lv_iconst (v := 0) hx hb dX0_init_17 (by decide) ?_
  refine lv_sipush (v := 500) hx hb dX0_init_18 (by decide) ?_
  refine va_iast hx hb hK hP hD hS 2 0 rfl rfl (by unfold vp_in; decide) dX0_init_21 (fun H locs hP hD hS => ?_)
  have hP : va_P D vwCl [(h0, .inr (0, [.ref q_1, .null, .null, .null, .null, .null, .int 0, .int 0])), (q_1, .inl (cI, 40, .inl (fun _ => (0 : Int32)))), (q_2, .inl (cI, 2, .inl (upd (fun _ => (0 : Int32)) 0 500)))] H := hP
  have hD : va_D A [(h0, .inr (0, [.ref q_1, .null, .null, .null, .null, .null, .int 0, .int 0])), (q_1, .inl (cI, 40, .inl (fun _ => (0 : Int32)))), (q_2, .inl (cI, 2, .inl (upd (fun _ => (0 : Int32)) 0 500)))] := hD
  refine lv_dup hx hb dX0_init_22 rfl ?_
  refine lv_iconst (v := 1) hx hb dX0_init_23 (by decide) ?_
  refine lv_sipush (v := 300) hx hb dX0_init_24 (by decide) ?_
  refine va_iast hx hb hK hP hD hS 2 0 rfl rfl (by unfold vp_in; decide) dX0_init_27 (fun H locs hP hD hS => ?_)
  have hP : va_P D vwCl [(h0, .inr (0, [.ref q_1, .null, .null, .null, .null, .null, .int 0, .int 0])), (q_1, .inl (cI, 40, .inl (fun _ => (0 : Int32)))), (q_2, .inl (cI, 2, .inl (upd (upd (fun _ => (0 : Int32)) 0 500) 1 300)))] H := hP
  have hD : va_D A [(h0, .inr (0, [.ref q_1, .null, .null, .null, .null, .null, .int 0, .int 0])), (q_1, .inl (cI, 40, .inl (fun _ => (0 : Int32)))), (q_2, .inl (cI, 2, .inl (upd (upd (fun _ => (0 : Int32)) 0 500) 1 300)))] := hD
  refine va_putF (D := D) (ci := 0) (v := .ref q_2) (ty := .array .int) (C := RX0) (T := TX0) (N := 8) hx hb hts iw_X0_init_0 tyX0 tyX0_ok nmX0 hown hK hP hD hS 0 rfl rfl 1 (by decide) (hts _ wd_X0_init_6) (fun _ h9 => h9) rfl hin rfl (by decide +kernel) rfl rfl (Nat.le_of_ble_eq_true rfl) dX0_init_28 (fun H locs hP hD hS => ?_)
  have hP : va_P D vwCl [(h0, .inr (0, [.ref q_1, .ref q_2, .null, .null, .null, .null, .int 0, .int 0])), (q_1, .inl (cI, 40, .inl (fun _ => (0 : Int32)))), (q_2, .inl (cI, 2, .inl (upd (upd (fun _ => (0 : Int32)) 0 500) 1 300)))] H := hP
  have hD : va_D A [(h0, .inr (0, [.ref q_1, .ref q_2, .null, .null, .null, .null, .int 0, .int 0])), (q_1, .inl (cI, 40, .inl (fun _ => (0 : Int32)))), (q_2, .inl (cI, 2, .inl (upd (upd (fun _ => (0 : Int32)) 0 500) 1 300)))] := hD
  refine lv_aload_n hx hb dX0_init_31 rfl (lv_at hl 0 rfl) ?_
  refine lv_bipush (v := 6) hx hb dX0_init_32 (by decide) ?_
  refine va_newa (atype := .int) (a0 := (6, .inl (fun _ => (0 : Int32)))) (N' := 6) hx hb (hts _ wd_X0_init_4) rfl hK hP hD hS hA (fun _ => rfl) (by decide) (by decide) (by decide) (Nat.le_of_ble_eq_true rfl) (Nat.le_of_ble_eq_true rfl) dX0_init_34 (fun q_3 cA H hK hP hD hS => ?_)
  have ecA := (cA_is (t0 := 0) (t1 := 2) hK rfl rfl).symm
  subst ecA
  have hK := hK.sub (tys' := [(cI, .int), (cQ, .array .int)]) [0, 1] rfl
  have hP : va_P D vwCl [(h0, .inr (0, [.ref q_1, .ref q_2, .null, .null, .null, .null, .int 0, .int 0])), (q_1, .inl (cI, 40, .inl (fun _ => (0 : Int32)))), (q_2, .inl (cI, 2, .inl (upd (upd (fun _ => (0 : Int32)) 0 500) 1 300))), (q_3, .inl (cI, 6, .inl (fun _ => (0 : Int32))))] H := hP
  have hD : va_D A [(h0, .inr (0, [.ref q_1, .ref q_2, .null, .null, .null, .null, .int 0, .int 0])), (q_1, .inl (cI, 40, .inl (fun _ => (0 : Int32)))), (q_2, .inl (cI, 2, .inl (upd (upd (fun _ => (0 : Int32)) 0 500) 1 300))), (q_3, .inl (cI, 6, .inl (fun _ => (0 : Int32))))] := hD
  refine W.widen (k := 3) (n := 48) (Nat.le_of_ble_eq_true rfl) (Nat.le_of_ble_eq_true rfl) ?_
  refine va_putF (D := D) (ci := 0) (v := .ref q_3) (ty := .array .int) (C := RX0) (T := TX0) (N := 8) hx hb hts iw_X0_init_0 tyX0 tyX0_ok nmX0 hown hK hP hD hS 0 rfl rfl 2 (by decide) (hts _ wd_X0_init_7) (fun _ h9 => h9) rfl hin rfl (by decide +kernel) rfl rfl (Nat.le_of_ble_eq_true rfl) dX0_init_36 (fun H locs hP hD hS => ?_)
  have hP : va_P D vwCl [(h0, .inr (0, [.ref q_1, .ref q_2, .ref q_3, .null, .null, .null, .int 0, .int 0])), (q_1, .inl (cI, 40, .inl (fun _ => (0 : Int32)))), (q_2, .inl (cI, 2, .inl (upd (upd (fun _ => (0 : Int32)) 0 500) 1 300))), (q_3, .inl (cI, 6, .inl (fun _ => (0 : Int32))))] H := hP
  have hD : va_D A [(h0, .inr (0, [.ref q_1, .ref q_2, .ref q_3, .null, .null, .null, .int 0, .int 0])), (q_1, .inl (cI, 40, .inl (fun _ => (0 : Int32)))), (q_2, .inl (cI, 2, .inl (upd (upd (fun _ => (0 : Int32)) 0 500) 1 300))), (q_3, .inl (cI, 6, .inl (fun _ => (0 : Int32))))] := hD
  refine lv_aload_n hx hb dX0_init_39 rfl (lv_at hl 0 rfl) ?_
  refine lv_bipush (v := 6) hx hb dX0_init_40 (by decide) ?_
  refine va_newa (atype := .int) (a0 := (6, .inl (fun _ => (0 : Int32)))) (N' := 6) hx hb (hts _ wd_X0_init_4) rfl hK hP hD hS hA (fun _ => rfl) (by decide) (by decide) (by decide) (Nat.le_of_ble_eq_true rfl) (Nat.le_of_ble_eq_true rfl) dX0_init_42 (fun q_4 cA H hK hP hD hS => ?_)
  have ecA := (cA_is (t0 := 0) (t1 := 2) hK rfl rfl).symm
  subst ecA
  have hK := hK.sub (tys' := [(cI, .int), (cQ, .array .int)]) [0, 1] rfl
  have hP : va_P D vwCl [(h0, .inr (0, [.ref q_1, .ref q_2, .ref q_3, .null, .null, .null, .int 0, .int 0])), (q_1, .inl (cI, 40, .inl (fun _ => (0 : Int32)))), (q_2, .inl (cI, 2, .inl (upd (upd (fun _ => (0 : Int32)) 0 500) 1 300))), (q_3, .inl (cI, 6, .inl (fun _ => (0 : Int32)))), (q_4, .inl (cI, 6, .inl (fun _ => (0 : Int32))))] H := hP
  have hD : va_D A [(h0, .inr (0, [.ref q_1, .ref q_2, .ref q_3, .null, .null, .null, .int 0, .int 0])), (q_1, .inl (cI, 40, .inl (fun _ => (0 : Int32)))), (q_2, .inl (cI, 2, .inl (upd (upd (fun _ => (0 : Int32)) 0 500) 1 300))), (q_3, .inl (cI, 6, .inl (fun _ => (0 : Int32)))), (q_4, .inl (cI, 6, .inl (fun _ => (0 : Int32))))] := hD
  refine W.widen (k := 4) (n := 54) (Nat.le_of_ble_eq_true rfl) (Nat.le_of_ble_eq_true rfl) ?_
  refine va_putF (D := D) (ci := 0) (v := .ref q_4) (ty := .array .int) (C := RX0) (T := TX0) (N := 8) hx hb hts iw_X0_init_0 tyX0 tyX0_ok nmX0 hown hK hP hD hS 0 rfl rfl 3 (by decide) (hts _ wd_X0_init_8) (fun _ h9 => h9) rfl hin rfl (by decide +kernel) rfl rfl (Nat.le_of_ble_eq_true rfl) dX0_init_44 (fun H locs hP hD hS => ?_)
  have hP : va_P D vwCl [(h0, .inr (0, [.ref q_1, .ref q_2, .ref q_3, .ref q_4, .null, .null, .int 0, .int 0])), (q_1, .inl (cI, 40, .inl (fun _ => (0 : Int32)))), (q_2, .inl (cI, 2, .inl (upd (upd (fun _ => (0 : Int32)) 0 500) 1 300))), (q_3, .inl (cI, 6, .inl (fun _ => (0 : Int32)))), (q_4, .inl (cI, 6, .inl (fun _ => (0 : Int32))))] H := hP
  have hD : va_D A [(h0, .inr (0, [.ref q_1, .ref q_2, .ref q_3, .ref q_4, .null, .null, .int 0, .int 0])), (q_1, .inl (cI, 40, .inl (fun _ => (0 : Int32)))), (q_2, .inl (cI, 2, .inl (upd (upd (fun _ => (0 : Int32)) 0 500) 1 300))), (q_3, .inl (cI, 6, .inl (fun _ => (0 : Int32)))), (q_4, .inl (cI, 6, .inl (fun _ => (0 : Int32))))] := hD
  refine lv_aload_n hx hb dX0_init_47 rfl (lv_at hl 0 rfl) ?_
  refine lv_bipush (v := 40) hx hb dX0_init_48 (by decide) ?_
  refine va_newa (atype := .int) (a0 := (40, .inl (fun _ => (0 : Int32)))) (N' := 40) hx hb (hts _ wd_X0_init_4) rfl hK hP hD hS hA (fun _ => rfl) (by decide) (by decide) (by decide) (Nat.le_of_ble_eq_true rfl) (Nat.le_of_ble_eq_true rfl) dX0_init_50 (fun q_5 cA H hK hP hD hS => ?_)
  have ecA := (cA_is (t0 := 0) (t1 := 2) hK rfl rfl).symm
  subst ecA
  have hK := hK.sub (tys' := [(cI, .int), (cQ, .array .int)]) [0, 1] rfl
  have hP : va_P D vwCl [(h0, .inr (0, [.ref q_1, .ref q_2, .ref q_3, .ref q_4, .null, .null, .int 0, .int 0])), (q_1, .inl (cI, 40, .inl (fun _ => (0 : Int32)))), (q_2, .inl (cI, 2, .inl (upd (upd (fun _ => (0 : Int32)) 0 500) 1 300))), (q_3, .inl (cI, 6, .inl (fun _ => (0 : Int32)))), (q_4, .inl (cI, 6, .inl (fun _ => (0 : Int32)))), (q_5, .inl (cI, 40, .inl (fun _ => (0 : Int32))))] H := hP
  have hD : va_D A [(h0, .inr (0, [.ref q_1, .ref q_2, .ref q_3, .ref q_4, .null, .null, .int 0, .int 0])), (q_1, .inl (cI, 40, .inl (fun _ => (0 : Int32)))), (q_2, .inl (cI, 2, .inl (upd (upd (fun _ => (0 : Int32)) 0 500) 1 300))), (q_3, .inl (cI, 6, .inl (fun _ => (0 : Int32)))), (q_4, .inl (cI, 6, .inl (fun _ => (0 : Int32)))), (q_5, .inl (cI, 40, .inl (fun _ => (0 : Int32))))] := hD
  refine W.widen (k := 5) (n := 94) (Nat.le_of_ble_eq_true rfl) (Nat.le_of_ble_eq_true rfl) ?_
  refine va_putF (D := D) (ci := 0) (v := .ref q_5) (ty := .array .int) (C := RX0) (T := TX0) (N := 8) hx hb hts iw_X0_init_0 tyX0 tyX0_ok nmX0 hown hK hP hD hS 0 rfl rfl 4 (by decide) (hts _ wd_X0_init_9) (fun _ h9 => h9) rfl hin rfl (by decide +kernel) rfl rfl (Nat.le_of_ble_eq_true rfl) dX0_init_52 (fun H locs hP hD hS => ?_)
  have hP : va_P D vwCl [(h0, .inr (0, [.ref q_1, .ref q_2, .ref q_3, .ref q_4, .ref q_5, .null, .int 0, .int 0])), (q_1, .inl (cI, 40, .inl (fun _ => (0 : Int32)))), (q_2, .inl (cI, 2, .inl (upd (upd (fun _ => (0 : Int32)) 0 500) 1 300))), (q_3, .inl (cI, 6, .inl (fun _ => (0 : Int32)))), (q_4, .inl (cI, 6, .inl (fun _ => (0 : Int32)))), (q_5, .inl (cI, 40, .inl (fun _ => (0 : Int32))))] H := hP
  have hD : va_D A [(h0, .inr (0, [.ref q_1, .ref q_2, .ref q_3, .ref q_4, .ref q_5, .null, .int 0, .int 0])), (q_1, .inl (cI, 40, .inl (fun _ => (0 : Int32)))), (q_2, .inl (cI, 2, .inl (upd (upd (fun _ => (0 : Int32)) 0 500) 1 300))), (q_3, .inl (cI, 6, .inl (fun _ => (0 : Int32)))), (q_4, .inl (cI, 6, .inl (fun _ => (0 : Int32)))), (q_5, .inl (cI, 40, .inl (fun _ => (0 : Int32))))] := hD
  refine lv_aload_n hx hb dX0_init_55 rfl (lv_at hl 0 rfl) ?_
  refine lv_bipush (v := 40) hx hb dX0_init_56 (by decide) ?_
  refine va_newa (atype := .int) (a0 := (40, .inl (fun _ => (0 : Int32)))) (N' := 40) hx hb (hts _ wd_X0_init_4) rfl hK hP hD hS hA (fun _ => rfl) (by decide) (by decide) (by decide) (Nat.le_of_ble_eq_true rfl) (Nat.le_of_ble_eq_true rfl) dX0_init_58 (fun q_6 cA H hK hP hD hS => ?_)
  have ecA := (cA_is (t0 := 0) (t1 := 2) hK rfl rfl).symm
  subst ecA
  have hK := hK.sub (tys' := [(cI, .int), (cQ, .array .int)]) [0, 1] rfl
  have hP : va_P D vwCl [(h0, .inr (0, [.ref q_1, .ref q_2, .ref q_3, .ref q_4, .ref q_5, .null, .int 0, .int 0])), (q_1, .inl (cI, 40, .inl (fun _ => (0 : Int32)))), (q_2, .inl (cI, 2, .inl (upd (upd (fun _ => (0 : Int32)) 0 500) 1 300))), (q_3, .inl (cI, 6, .inl (fun _ => (0 : Int32)))), (q_4, .inl (cI, 6, .inl (fun _ => (0 : Int32)))), (q_5, .inl (cI, 40, .inl (fun _ => (0 : Int32)))), (q_6, .inl (cI, 40, .inl (fun _ => (0 : Int32))))] H := hP
  have hD : va_D A [(h0, .inr (0, [.ref q_1, .ref q_2, .ref q_3, .ref q_4, .ref q_5, .null, .int 0, .int 0])), (q_1, .inl (cI, 40, .inl (fun _ => (0 : Int32)))), (q_2, .inl (cI, 2, .inl (upd (upd (fun _ => (0 : Int32)) 0 500) 1 300))), (q_3, .inl (cI, 6, .inl (fun _ => (0 : Int32)))), (q_4, .inl (cI, 6, .inl (fun _ => (0 : Int32)))), (q_5, .inl (cI, 40, .inl (fun _ => (0 : Int32)))), (q_6, .inl (cI, 40, .inl (fun _ => (0 : Int32))))] := hD
  refine W.widen (k := 6) (n := 134) (Nat.le_of_ble_eq_true rfl) (Nat.le_of_ble_eq_true rfl) ?_
  refine va_putF (D := D) (ci := 0) (v := .ref q_6) (ty := .array .int) (C := RX0) (T := TX0) (N := 8) hx hb hts iw_X0_init_0 tyX0 tyX0_ok nmX0 hown hK hP hD hS 0 rfl rfl 5 (by decide) (hts _ wd_X0_init_10) (fun _ h9 => h9) rfl hin rfl (by decide +kernel) rfl rfl (Nat.le_of_ble_eq_true rfl) dX0_init_60 (fun H locs hP hD hS => ?_)
  have hP : va_P D vwCl [(h0, .inr (0, [.ref q_1, .ref q_2, .ref q_3, .ref q_4, .ref q_5, .ref q_6, .int 0, .int 0])), (q_1, .inl (cI, 40, .inl (fun _ => (0 : Int32)))), (q_2, .inl (cI, 2, .inl (upd (upd (fun _ => (0 : Int32)) 0 500) 1 300))), (q_3, .inl (cI, 6, .inl (fun _ => (0 : Int32)))), (q_4, .inl (cI, 6, .inl (fun _ => (0 : Int32)))), (q_5, .inl (cI, 40, .inl (fun _ => (0 : Int32)))), (q_6, .inl (cI, 40, .inl (fun _ => (0 : Int32))))] H := hP
  have hD : va_D A [(h0, .inr (0, [.ref q_1, .ref q_2, .ref q_3, .ref q_4, .ref q_5, .ref q_6, .int 0, .int 0])), (q_1, .inl (cI, 40, .inl (fun _ => (0 : Int32)))), (q_2, .inl (cI, 2, .inl (upd (upd (fun _ => (0 : Int32)) 0 500) 1 300))), (q_3, .inl (cI, 6, .inl (fun _ => (0 : Int32)))), (q_4, .inl (cI, 6, .inl (fun _ => (0 : Int32)))), (q_5, .inl (cI, 40, .inl (fun _ => (0 : Int32)))), (q_6, .inl (cI, 40, .inl (fun _ => (0 : Int32))))] := hD
  refine lv_aload_n hx hb dX0_init_63 rfl (lv_at hl 0 rfl) ?_
  refine lv_iconst (v := 0) hx hb dX0_init_64 (by decide) ?_
  refine va_put (D := D) (ci := 0) (v := .int 0) (ty := .int) (C := RX0) (T := TX0) (N := 8) hx hb hts iw_X0_init_0 tyX0 tyX0_ok nmX0 hown hK hP hD hS 0 rfl rfl 6 (by decide) (hts _ wd_X0_init_11) (fun _ h9 => h9) rfl (by decide +kernel) rfl rfl (Nat.le_of_ble_eq_true rfl) dX0_init_65 (fun H locs hP hD hS => ?_)
  have hP : va_P D vwCl [(h0, .inr (0, [.ref q_1, .ref q_2, .ref q_3, .ref q_4, .ref q_5, .ref q_6, .int 0, .int 0])), (q_1, .inl (cI, 40, .inl (fun _ => (0 : Int32)))), (q_2, .inl (cI, 2, .inl (upd (upd (fun _ => (0 : Int32)) 0 500) 1 300))), (q_3, .inl (cI, 6, .inl (fun _ => (0 : Int32)))), (q_4, .inl (cI, 6, .inl (fun _ => (0 : Int32)))), (q_5, .inl (cI, 40, .inl (fun _ => (0 : Int32)))), (q_6, .inl (cI, 40, .inl (fun _ => (0 : Int32))))] H := hP
  have hD : va_D A [(h0, .inr (0, [.ref q_1, .ref q_2, .ref q_3, .ref q_4, .ref q_5, .ref q_6, .int 0, .int 0])), (q_1, .inl (cI, 40, .inl (fun _ => (0 : Int32)))), (q_2, .inl (cI, 2, .inl (upd (upd (fun _ => (0 : Int32)) 0 500) 1 300))), (q_3, .inl (cI, 6, .inl (fun _ => (0 : Int32)))), (q_4, .inl (cI, 6, .inl (fun _ => (0 : Int32)))), (q_5, .inl (cI, 40, .inl (fun _ => (0 : Int32)))), (q_6, .inl (cI, 40, .inl (fun _ => (0 : Int32))))] := hD
  refine lv_aload_n hx hb dX0_init_68 rfl (lv_at hl 0 rfl) ?_
  refine lv_iconst (v := 0) hx hb dX0_init_69 (by decide) ?_
  refine va_put (D := D) (ci := 0) (v := .int 0) (ty := .int) (C := RX0) (T := TX0) (N := 8) hx hb hts iw_X0_init_0 tyX0 tyX0_ok nmX0 hown hK hP hD hS 0 rfl rfl 7 (by decide) (hts _ wd_X0_init_12) (fun _ h9 => h9) rfl (by decide +kernel) rfl rfl (Nat.le_of_ble_eq_true rfl) dX0_init_70 (fun H locs hP hD hS => ?_)
  have hP : va_P D vwCl [(h0, .inr (0, [.ref q_1, .ref q_2, .ref q_3, .ref q_4, .ref q_5, .ref q_6, .int 0, .int 0])), (q_1, .inl (cI, 40, .inl (fun _ => (0 : Int32)))), (q_2, .inl (cI, 2, .inl (upd (upd (fun _ => (0 : Int32)) 0 500) 1 300))), (q_3, .inl (cI, 6, .inl (fun _ => (0 : Int32)))), (q_4, .inl (cI, 6, .inl (fun _ => (0 : Int32)))), (q_5, .inl (cI, 40, .inl (fun _ => (0 : Int32)))), (q_6, .inl (cI, 40, .inl (fun _ => (0 : Int32))))] H := hP
  have hD : va_D A [(h0, .inr (0, [.ref q_1, .ref q_2, .ref q_3, .ref q_4, .ref q_5, .ref q_6, .int 0, .int 0])), (q_1, .inl (cI, 40, .inl (fun _ => (0 : Int32)))), (q_2, .inl (cI, 2, .inl (upd (upd (fun _ => (0 : Int32)) 0 500) 1 300))), (q_3, .inl (cI, 6, .inl (fun _ => (0 : Int32)))), (q_4, .inl (cI, 6, .inl (fun _ => (0 : Int32)))), (q_5, .inl (cI, 40, .inl (fun _ => (0 : Int32)))), (q_6, .inl (cI, 40, .inl (fun _ => (0 : Int32))))] := hD
  refine lv_iconst (v := 0) hx hb dX0_init_73 (by decide) ?_
  refine lv_istore_n (lv' := [(1, .int 0), (0, .ref h0)]) hx hb dX0_init_74 rfl hl (by decide) rfl (fun ls hl => ?_)
  have lp_75 : ∀ (n : Nat) (i : Nat) (k : Int32) (gw : Nat → Int32) (H : Heap) (locs : List Loc) (ls : Array Slot), 40 - i < n → (k = nI i) → (i ≤ 40) → (∀ j, j < i → gw j = 20) → (okWm gw) → va_P D vwCl [(h0, .inr (0, [.ref q_1, .ref q_2, .ref q_3, .ref q_4, .ref q_5, .ref q_6, .int 0, .int 0])), (q_1, .inl (cI, 40, .inl gw)), (q_2, .inl (cI, 2, .inl (upd (upd (fun _ => (0 : Int32)) 0 500) 1 300))), (q_3, .inl (cI, 6, .inl (fun _ => (0 : Int32)))), (q_4, .inl (cI, 6, .inl (fun _ => (0 : Int32)))), (q_5, .inl (cI, 40, .inl (fun _ => (0 : Int32)))), (q_6, .inl (cI, 40, .inl (fun _ => (0 : Int32))))] H → va_D A [(h0, .inr (0, [.ref q_1, .ref q_2, .ref q_3, .ref q_4, .ref q_5, .ref q_6, .int 0, .int 0])), (q_1, .inl (cI, 40, .inl gw)), (q_2, .inl (cI, 2, .inl (upd (upd (fun _ => (0 : Int32)) 0 500) 1 300))), (q_3, .inl (cI, 6, .inl (fun _ => (0 : Int32)))), (q_4, .inl (cI, 6, .inl (fun _ => (0 : Int32)))), (q_5, .inl (cI, 40, .inl (fun _ => (0 : Int32)))), (q_6, .inl (cI, 40, .inl (fun _ => (0 : Int32))))] → va_S A s.heap H locs → lv_has ls 2 [(0, .ref h0), (1, .int k)] → GW H locs 6 134 (F0 m 75 ls []) := by
    intro n_75
    induction n_75 with
    | zero => intro i k gw H locs ls hn_75; exact absurd hn_75 (Nat.not_lt_zero _)
    | succ n_75 ih_75 =>
      intro i k gw H locs ls hn_75 ek hi hw vw hP hD hS hl
      refine hIn _ _ _ _ _ ?_
      refine lv_iload_n hx hb dX0_init_75 rfl (lv_at hl 1 rfl) ?_
      refine lv_bipush (v := 40) hx hb dX0_init_76 (by decide) ?_
      refine lv_icmp_ge (tgt := 95) hx hb dX0_init_78 (by decide) (fun c_7 => ?_) (fun c_7 => ?_)
      · refine lv_aload_n hx hb dX0_init_95 rfl (lv_at hl 0 rfl) ?_
        refine cc_v (wc := [(h0, .inr (0, [.ref q_1, .ref q_2, .ref q_3, .ref q_4, .ref q_5, .ref q_6, .int 0, .int 0])), (q_1, .inl (cI, 40, .inl gw)), (q_2, .inl (cI, 2, .inl (upd (upd (fun _ => (0 : Int32)) 0 500) 1 300))), (q_3, .inl (cI, 6, .inl (fun _ => (0 : Int32)))), (q_4, .inl (cI, 6, .inl (fun _ => (0 : Int32)))), (q_5, .inl (cI, 40, .inl (fun _ => (0 : Int32)))), (q_6, .inl (cI, 40, .inl (fun _ => (0 : Int32))))]) (wr := []) (va_runV (As := []) (rest := []) ⟨hx, hb, hml, hown, hts⟩ (c_X0_renew l D cI cQ H.size h0 q_1 q_2 q_3 q_4 q_5 q_6 0 0 gw (upd (upd (fun _ => (0 : Int32)) 0 500) 1 300) (fun _ => (0 : Int32)) (fun _ => (0 : Int32)) (fun _ => (0 : Int32)) (fun _ => (0 : Int32)) (pf_X0_init_1 n_75 i k gw hn_75 ek hi hw vw c_7) (pf_X0_init_2 n_75 i k gw hn_75 ek hi hw vw c_7) (pf_X0_init_3 n_75 i k gw hn_75 ek hi hw vw c_7) (pf_X0_init_4 n_75 i k gw hn_75 ek hi hw vw c_7) (pf_X0_init_5 n_75 i k gw hn_75 ek hi hw vw c_7) (pf_X0_init_6 n_75 i k gw hn_75 ek hi hw vw c_7) (pf_X0_init_7 n_75 i k gw hn_75 ek hi hw vw c_7)) (cwV 0 hts gX0_init_X0_renew rfl rfl rfl (by decide +kernel) ⟨Nat.le_of_ble_eq_true rfl, Nat.le_of_ble_eq_true rfl⟩) (preV (wc := [(h0, .inr (0, [.ref q_1, .ref q_2, .ref q_3, .ref q_4, .ref q_5, .ref q_6, .int 0, .int 0])), (q_1, .inl (cI, 40, .inl gw)), (q_2, .inl (cI, 2, .inl (upd (upd (fun _ => (0 : Int32)) 0 500) 1 300))), (q_3, .inl (cI, 6, .inl (fun _ => (0 : Int32)))), (q_4, .inl (cI, 6, .inl (fun _ => (0 : Int32)))), (q_5, .inl (cI, 40, .inl (fun _ => (0 : Int32)))), (q_6, .inl (cI, 40, .inl (fun _ => (0 : Int32))))]) (ci := 0) (q0 := 0) hK hP hD hN [0, 1, 2, 3, 4, 5, 6] rfl (by decide) rfl rfl) rfl rfl hl.1 rfl (lv_room (Nat.le_of_ble_eq_true rfl)) dX0_init_96 ⟨Nat.le_of_ble_eq_true rfl, Nat.le_of_ble_eq_true rfl⟩) hP hD hS hA [0, 1, 2, 3, 4, 5, 6] [] rfl rfl (by decide) (by decide) (fun u H locs w_9 hP hD hS => ?_)
        obtain ⟨fg2_10, fs2_11⟩ := u
        have hP : va_P D vwCl [(h0, .inr (0, [.ref q_1, .ref q_2, .ref q_3, .ref q_4, .ref q_5, .ref q_6, .int 0, .int 0])), (q_1, .inl (cI, 40, .inl gw)), (q_2, .inl (cI, 2, .inl (upd (upd (fun _ => (0 : Int32)) 0 500) 1 300))), (q_3, .inl (cI, 6, .inl (fun _ => (0 : Int32)))), (q_4, .inl (cI, 6, .inl (fun _ => (0 : Int32)))), (q_5, .inl (cI, 40, .inl fg2_10)), (q_6, .inl (cI, 40, .inl fs2_11))] H := hP
        have hD : va_D A [(h0, .inr (0, [.ref q_1, .ref q_2, .ref q_3, .ref q_4, .ref q_5, .ref q_6, .int 0, .int 0])), (q_1, .inl (cI, 40, .inl gw)), (q_2, .inl (cI, 2, .inl (upd (upd (fun _ => (0 : Int32)) 0 500) 1 300))), (q_3, .inl (cI, 6, .inl (fun _ => (0 : Int32)))), (q_4, .inl (cI, 6, .inl (fun _ => (0 : Int32)))), (q_5, .inl (cI, 40, .inl fg2_10)), (q_6, .inl (cI, 40, .inl fs2_11))] := hD
        have w_9 : okS fs2_11 ∧ okFg gw (0 : Int32) fg2_10 ∧ okFs gw (0 : Int32) (fun _ => (0 : Int32)) (fun _ => (0 : Int32)) (0 : Int32) ((upd (upd (fun _ => (0 : Int32)) 0 500) 1 300) 0) fs2_11 := w_9
        obtain ⟨h_12, h_13, h_14⟩ := w_9
        refine W.widen (k := 6) (n := 134) (Nat.le_of_ble_eq_true rfl) (Nat.le_of_ble_eq_true rfl) ?_
        exact fi_v (q_1, q_2, q_3, q_4, q_5, q_6, gw, upd (upd (fun _ => (0 : Int32)) 0 500) 1 300, fun _ => (0 : Int32), fun _ => (0 : Int32), fg2_10, fs2_11) hx hb hr hlocks hK (hP.sub [0, 1, 2, 3, 4, 5, 6] rfl) (hD.sub [0, 1, 2, 3, 4, 5, 6] (by decide) rfl) hS ⟨(pf_X0_init_8 n_75 i k gw fg2_10 fs2_11 hn_75 ek hi hw vw c_7 h_12 h_13 h_14), (pf_X0_init_9 n_75 i k gw fg2_10 fs2_11 hn_75 ek hi hw vw c_7 h_12 h_13 h_14), (pf_X0_init_10 n_75 i k gw fg2_10 fs2_11 hn_75 ek hi hw vw c_7 h_12 h_13 h_14), (pf_X0_init_11 n_75 i k gw fg2_10 fs2_11 hn_75 ek hi hw vw c_7 h_12 h_13 h_14), (pf_X0_init_12 n_75 i k gw fg2_10 fs2_11 hn_75 ek hi hw vw c_7 h_12 h_13 h_14), (pf_X0_init_13 n_75 i k gw fg2_10 fs2_11 hn_75 ek hi hw vw c_7 h_12 h_13 h_14), (pf_X0_init_14 n_75 i k gw fg2_10 fs2_11 hn_75 ek hi hw vw c_7 h_12 h_13 h_14)⟩ dX0_init_99
      · refine lv_aload_n hx hb dX0_init_81 rfl (lv_at hl 0 rfl) ?_
        refine va_get (D := D) (ci := 0) (v := .ref q_1) (C := RX0) (T := TX0) (N := 8) hx hb hts iw_X0_init_0 hown hK hP 0 rfl rfl 0 (by decide) (hts _ wd_X0_init_5) (fun _ h9 => h9) rfl dX0_init_82 ?_
        refine lv_iload_n hx hb dX0_init_85 rfl (lv_at hl 1 rfl) ?_
        refine lv_bipush (v := 20) hx hb dX0_init_86 (by decide) ?_
        refine va_iast hx hb hK hP hD hS 1 0 rfl rfl (pf_X0_init_15 n_75 i k gw hn_75 ek hi hw vw c_7) dX0_init_88 (fun H locs hP hD hS => ?_)
        have hP : va_P D vwCl [(h0, .inr (0, [.ref q_1, .ref q_2, .ref q_3, .ref q_4, .ref q_5, .ref q_6, .int 0, .int 0])), (q_1, .inl (cI, 40, .inl (upd gw k.toNatClampNeg 20))), (q_2, .inl (cI, 2, .inl (upd (upd (fun _ => (0 : Int32)) 0 500) 1 300))), (q_3, .inl (cI, 6, .inl (fun _ => (0 : Int32)))), (q_4, .inl (cI, 6, .inl (fun _ => (0 : Int32)))), (q_5, .inl (cI, 40, .inl (fun _ => (0 : Int32)))), (q_6, .inl (cI, 40, .inl (fun _ => (0 : Int32))))] H := hP
        have hD : va_D A [(h0, .inr (0, [.ref q_1, .ref q_2, .ref q_3, .ref q_4, .ref q_5, .ref q_6, .int 0, .int 0])), (q_1, .inl (cI, 40, .inl (upd gw k.toNatClampNeg 20))), (q_2, .inl (cI, 2, .inl (upd (upd (fun _ => (0 : Int32)) 0 500) 1 300))), (q_3, .inl (cI, 6, .inl (fun _ => (0 : Int32)))), (q_4, .inl (cI, 6, .inl (fun _ => (0 : Int32)))), (q_5, .inl (cI, 40, .inl (fun _ => (0 : Int32)))), (q_6, .inl (cI, 40, .inl (fun _ => (0 : Int32))))] := hD
        obtain ⟨v_15, ev_15⟩ : ∃ y : Int32, y = k + 1 := ⟨_, rfl⟩
        refine lv_iinc (v := v_15) (lv' := [(1, .int v_15), (0, .ref h0)]) hx hb dX0_init_89 hl (k := 1) rfl (by rw [ev_15]; rfl) (by decide) rfl (fun ls hl => ?_)
        refine lv_goto (tgt := 75) hx hb dX0_init_92 (by decide) ?_
        exact hOut _ _ _ _ _ (ih_75 (i + 1) v_15 (upd gw k.toNatClampNeg 20) _ _ _ (pf_X0_init_16 n_75 i k gw v_15 hn_75 ek hi hw vw c_7 ev_15) (pf_X0_init_17 n_75 i k gw v_15 hn_75 ek hi hw vw c_7 ev_15) (pf_X0_init_18 n_75 i k gw v_15 hn_75 ek hi hw vw c_7 ev_15) (pf_X0_init_19 n_75 i k gw v_15 hn_75 ek hi hw vw c_7 ev_15) (pf_X0_init_20 n_75 i k gw v_15 hn_75 ek hi hw vw c_7 ev_15) (hP.sub [0, 1, 2, 3, 4, 5, 6] rfl) (hD.sub [0, 1, 2, 3, 4, 5, 6] (by decide) rfl) hS (lv_sub hl [1, 0] rfl))
  exact hOut _ _ _ _ _ (lp_75 (40 - 0 + 1) 0 0 (fun _ => (0 : Int32)) _ _ _ (Nat.lt_succ_self _) (pf_X0_init_21) (pf_X0_init_22) (pf_X0_init_23) (pf_X0_init_24) (hP.sub [0, 1, 2, 3, 4, 5, 6] rfl) (hD.sub [0, 1, 2, 3, 4, 5, 6] (by decide) rfl) hS (lv_sub hl [1, 0] rfl))

theorem iw_X0_goesOnWith_0 : ∀ w ∈ wsX00, w ∈ wsX0_goesOnWith := fun w h => (List.mem_cons_of_mem _ (List.mem_append_right _ h))
theorem wd_X0_goesOnWith_1 : (.fieldLink RX0 34 "PourPlan$Curing" "points" "I" : Cond) ∈ wsX0_goesOnWith := List.mem_of_getElem? (i := 1) rfl
theorem wd_X0_goesOnWith_2 : (.fieldLink RX0 18 "PourPlan$Curing" "pointDegrees" "[I" : Cond) ∈ wsX0_goesOnWith := List.mem_of_getElem? (i := 2) rfl
theorem wd_X0_goesOnWith_3 : (.fieldLink RX0 21 "PourPlan$Curing" "pointHardness" "[I" : Cond) ∈ wsX0_goesOnWith := List.mem_of_getElem? (i := 3) rfl
set_option maxHeartbeats 1000000 in
theorem pf_X0_goesOnWith_1 (pts : Int32) (fd : Nat → Int32) (fh : Nat → Int32) (d : Int32) (t : Int32) (v_1 : Int32) (hp0 : 0 ≤ pts) (hp6 : pts ≤ 6) (ev_1 : v_1 = pts - 1) (c_2 : v_1 < 0) : ((1 : Int32) = 0 ↔ (0 < pts ∧ (d ≤ fd (pts - 1).toNatClampNeg ∨ t < fh (pts - 1).toNatClampNeg))) := by
  grind
set_option maxHeartbeats 1000000 in
theorem pf_X0_goesOnWith_2 (pts : Int32) (fd : Nat → Int32) (fh : Nat → Int32) (d : Int32) (t : Int32) (v_1 : Int32) (hp0 : 0 ≤ pts) (hp6 : pts ≤ 6) (ev_1 : v_1 = pts - 1) (c_2 : ¬ v_1 < 0) (c_3 : 6 ≤ v_1) : ((1 : Int32) = 0 ↔ (0 < pts ∧ (d ≤ fd (pts - 1).toNatClampNeg ∨ t < fh (pts - 1).toNatClampNeg))) := by
  grind
set_option maxHeartbeats 1000000 in
theorem pf_X0_goesOnWith_3 (pts : Int32) (v_1 : Int32) (hp0 : 0 ≤ pts) (hp6 : pts ≤ 6) (ev_1 : v_1 = pts - 1) (c_2 : ¬ v_1 < 0) (c_3 : ¬ 6 ≤ v_1) : vp_in v_1 6 := by
  exact vi_in (M := 6) rfl (by grind) (by grind)
set_option maxHeartbeats 1000000 in
theorem pf_X0_goesOnWith_4 (pts : Int32) (fd : Nat → Int32) (fh : Nat → Int32) (d : Int32) (t : Int32) (v_1 : Int32) (v_4 : Int32) (hp0 : 0 ≤ pts) (hp6 : pts ≤ 6) (ev_1 : v_1 = pts - 1) (c_2 : ¬ v_1 < 0) (c_3 : ¬ 6 ≤ v_1) (ev_4 : v_4 = fd v_1.toNatClampNeg) (c_5 : d ≤ v_4) : ((0 : Int32) = 0 ↔ (0 < pts ∧ (d ≤ fd (pts - 1).toNatClampNeg ∨ t < fh (pts - 1).toNatClampNeg))) := by
  grind
set_option maxHeartbeats 1000000 in
theorem pf_X0_goesOnWith_5 (pts : Int32) (fd : Nat → Int32) (d : Int32) (v_1 : Int32) (v_4 : Int32) (hp0 : 0 ≤ pts) (hp6 : pts ≤ 6) (ev_1 : v_1 = pts - 1) (c_2 : ¬ v_1 < 0) (c_3 : ¬ 6 ≤ v_1) (ev_4 : v_4 = fd v_1.toNatClampNeg) (c_5 : ¬ d ≤ v_4) : vp_in v_1 6 := by
  exact vi_in (M := 6) rfl (by grind) (by grind)
set_option maxHeartbeats 1000000 in
theorem pf_X0_goesOnWith_6 (pts : Int32) (fd : Nat → Int32) (fh : Nat → Int32) (d : Int32) (t : Int32) (v_1 : Int32) (v_4 : Int32) (v_6 : Int32) (hp0 : 0 ≤ pts) (hp6 : pts ≤ 6) (ev_1 : v_1 = pts - 1) (c_2 : ¬ v_1 < 0) (c_3 : ¬ 6 ≤ v_1) (ev_4 : v_4 = fd v_1.toNatClampNeg) (c_5 : ¬ d ≤ v_4) (ev_6 : v_6 = fh v_1.toNatClampNeg) (c_7 : t < v_6) : ((0 : Int32) = 0 ↔ (0 < pts ∧ (d ≤ fd (pts - 1).toNatClampNeg ∨ t < fh (pts - 1).toNatClampNeg))) := by
  grind
set_option maxHeartbeats 1000000 in
theorem pf_X0_goesOnWith_7 (pts : Int32) (fd : Nat → Int32) (fh : Nat → Int32) (d : Int32) (t : Int32) (v_1 : Int32) (v_4 : Int32) (v_6 : Int32) (hp0 : 0 ≤ pts) (hp6 : pts ≤ 6) (ev_1 : v_1 = pts - 1) (c_2 : ¬ v_1 < 0) (c_3 : ¬ 6 ≤ v_1) (ev_4 : v_4 = fd v_1.toNatClampNeg) (c_5 : ¬ d ≤ v_4) (ev_6 : v_6 = fh v_1.toNatClampNeg) (c_7 : ¬ t < v_6) : ((1 : Int32) = 0 ↔ (0 < pts ∧ (d ≤ fd (pts - 1).toNatClampNeg ∨ t < fh (pts - 1).toNatClampNeg))) := by
  grind
set_option maxHeartbeats 4000000 in
set_option maxRecDepth 100000 in
theorem c_X0_goesOnWith (l : Launch) (D : va_G) (cI cQ : ClassId) (sz : Nat) (h0 : Nat) (a2 : Nat) (a3 : Nat) (a0 : Nat) (a1 : Nat) (a4 : Nat) (a5 : Nat) (bw : Int32) (pts : Int32) (fd : Nat → Int32) (fh : Nat → Int32) (d : Int32) (t : Int32) (hp0 : 0 ≤ pts) (hp6 : pts ≤ 6) : CtI l yX0_goesOnWith wsX0_goesOnWith 0 0 0 0 [.ref h0, .int d, .int t] D [(cI, .int), (cQ, .array .int)] [(h0, .inr (0, [.ref a0, .ref a1, .ref a2, .ref a3, .ref a4, .ref a5, .int bw, .int pts])), (a2, .inl (cI, 6, .inl fd)), (a3, .inl (cI, 6, .inl fh))] sz (fun (r : Int32) (u : Unit) => (r = 0 ↔ (0 < pts ∧ (d ≤ fd (pts - 1).toNatClampNeg ∨ t < fh (pts - 1).toNatClampNeg)))) (fun (u : Unit) => [(h0, .inr (0, [.ref a0, .ref a1, .ref a2, .ref a3, .ref a4, .ref a5, .int bw, .int pts])), (a2, .inl (cI, 6, .inl fd)), (a3, .inl (cI, 6, .inl fh))]) := by
  refine Met.ofW (cc := cX0_goesOnWith) (maxL := 4) (ret := (some .boolean)) (by decide) rfl ?_
  intro p e s m args below meth c s₁ B hml hv
  obtain ⟨rfl, hsz, hP, hK, hD0, hN⟩ := hv
  have hx := B.exec
  have hb := B.bytes
  have hr := B.returns
  have hts := atoms_spec (ws := wsX0_goesOnWith) B.pre
  have hown : s.vm.findClass RX0 = some m.cls := findClass_of_methodNamed B.named
  have hlocks := B.notSynchronized
  subst hsz
  have hD := hD0.self (sz := s.heap.size)
  generalize hAe : va_A [(h0, .inr (0, [.ref a0, .ref a1, .ref a2, .ref a3, .ref a4, .ref a5, .int bw, .int pts])), (a2, .inl (cI, 6, .inl fd)), (a3, .inl (cI, 6, .inl fh))] s.heap.size = A at hD ⊢
  have hA : ∀ q : Nat, s.heap.size ≤ q → A q := fun q h => by rw [← hAe]; exact Or.inr h
  have hS : va_S A s.heap s.heap [] := va_S.rf
  have hl := lv_entry ([.ref h0, .int d, .int t]) (n := 4) (Nat.le_of_ble_eq_true rfl)
  rw [lg_entry_eq]
  generalize (lg_sl ([.ref h0, .int d, .int t]) ++ List.replicate (4 - (lg_sl ([.ref h0, .int d, .int t])).length) Slot.unset).toArray = ls at hl ⊢
  have hl : lv_has ls 4 [(0, .ref h0), (1, .int d), (2, .int t)] := hl
  have hP0 := hP
  refine lv_aload_n hx hb dX0_goesOnWith_0 rfl (lv_at hl 0 rfl) ?_
  refine va_get (D := D) (ci := 0) (v := .int pts) (C := RX0) (T := TX0) (N := 8) hx hb hts iw_X0_goesOnWith_0 hown hK hP 0 rfl rfl 7 (by decide) (hts _ wd_X0_goesOnWith_1) (fun _ h9 => h9) rfl dX0_goesOnWith_1 ?_
  refine lv_iconst (v := 1) hx hb dX0_goesOnWith_4 (by decide) ?_
  refine lv_isub hx hb dX0_goesOnWith_5 ?_
  refine lv_topi (fun v_1 ev_1 => ?_)
  refine lv_istore_n (lv' := [(3, .int v_1), (0, .ref h0), (1, .int d), (2, .int t)]) hx hb dX0_goesOnWith_6 rfl hl (by decide) rfl (fun ls hl => ?_)
  refine lv_iload_n hx hb dX0_goesOnWith_7 rfl (lv_at hl 0 rfl) ?_
  refine lv_if_lt (tgt := 37) hx hb dX0_goesOnWith_8 (by decide) (fun c_2 => ?_) (fun c_2 => ?_)
  · refine lv_iconst (v := 1) hx hb dX0_goesOnWith_37 (by decide) ?_
    refine lv_goto (tgt := 42) hx hb dX0_goesOnWith_38 (by decide) ?_
    refine W.widen (k := 0) (n := 0) (Nat.le_of_ble_eq_true rfl) (Nat.le_of_ble_eq_true rfl) ?_
    exact fi_z () hx hb hr rfl hlocks hK (hP.sub [0, 1, 2] rfl) (hD.sub [0, 1, 2] (by decide) rfl) hS (pf_X0_goesOnWith_1 pts fd fh d t v_1 hp0 hp6 ev_1 c_2) dX0_goesOnWith_42
  · refine lv_iload_n hx hb dX0_goesOnWith_11 rfl (lv_at hl 0 rfl) ?_
    refine lv_bipush (v := 6) hx hb dX0_goesOnWith_12 (by decide) ?_
    refine lv_icmp_ge (tgt := 37) hx hb dX0_goesOnWith_14 (by decide) (fun c_3 => ?_) (fun c_3 => ?_)
    · refine lv_iconst (v := 1) hx hb dX0_goesOnWith_37 (by decide) ?_
      refine lv_goto (tgt := 42) hx hb dX0_goesOnWith_38 (by decide) ?_
      refine W.widen (k := 0) (n := 0) (Nat.le_of_ble_eq_true rfl) (Nat.le_of_ble_eq_true rfl) ?_
      exact fi_z () hx hb hr rfl hlocks hK (hP.sub [0, 1, 2] rfl) (hD.sub [0, 1, 2] (by decide) rfl) hS (pf_X0_goesOnWith_2 pts fd fh d t v_1 hp0 hp6 ev_1 c_2 c_3) dX0_goesOnWith_42
    · refine lv_iload_n hx hb dX0_goesOnWith_17 rfl (lv_at hl 2 rfl) ?_
      refine lv_aload_n hx hb dX0_goesOnWith_18 rfl (lv_at hl 1 rfl) ?_
      refine va_get (D := D) (ci := 0) (v := .ref a2) (C := RX0) (T := TX0) (N := 8) hx hb hts iw_X0_goesOnWith_0 hown hK hP 0 rfl rfl 2 (by decide) (hts _ wd_X0_goesOnWith_2) (fun _ h9 => h9) rfl dX0_goesOnWith_19 ?_
      refine lv_iload_n hx hb dX0_goesOnWith_22 rfl (lv_at hl 0 rfl) ?_
      refine va_iald hx hb hK hP 1 0 rfl rfl (pf_X0_goesOnWith_3 pts v_1 hp0 hp6 ev_1 c_2 c_3) dX0_goesOnWith_23 ?_
      refine lv_topi (fun v_4 ev_4 => ?_)
      refine lv_icmp_le (tgt := 41) hx hb dX0_goesOnWith_24 (by decide) (fun c_5 => ?_) (fun c_5 => ?_)
      · refine lv_iconst (v := 0) hx hb dX0_goesOnWith_41 (by decide) ?_
        refine W.widen (k := 0) (n := 0) (Nat.le_of_ble_eq_true rfl) (Nat.le_of_ble_eq_true rfl) ?_
        exact fi_z () hx hb hr rfl hlocks hK (hP.sub [0, 1, 2] rfl) (hD.sub [0, 1, 2] (by decide) rfl) hS (pf_X0_goesOnWith_4 pts fd fh d t v_1 v_4 hp0 hp6 ev_1 c_2 c_3 ev_4 c_5) dX0_goesOnWith_42
      · refine lv_iload_n hx hb dX0_goesOnWith_27 rfl (lv_at hl 3 rfl) ?_
        refine lv_aload_n hx hb dX0_goesOnWith_28 rfl (lv_at hl 1 rfl) ?_
        refine va_get (D := D) (ci := 0) (v := .ref a3) (C := RX0) (T := TX0) (N := 8) hx hb hts iw_X0_goesOnWith_0 hown hK hP 0 rfl rfl 3 (by decide) (hts _ wd_X0_goesOnWith_3) (fun _ h9 => h9) rfl dX0_goesOnWith_29 ?_
        refine lv_iload_n hx hb dX0_goesOnWith_32 rfl (lv_at hl 0 rfl) ?_
        refine va_iald hx hb hK hP 2 0 rfl rfl (pf_X0_goesOnWith_5 pts fd d v_1 v_4 hp0 hp6 ev_1 c_2 c_3 ev_4 c_5) dX0_goesOnWith_33 ?_
        refine lv_topi (fun v_6 ev_6 => ?_)
        refine lv_icmp_lt (tgt := 41) hx hb dX0_goesOnWith_34 (by decide) (fun c_7 => ?_) (fun c_7 => ?_)
        · refine lv_iconst (v := 0) hx hb dX0_goesOnWith_41 (by decide) ?_
          refine W.widen (k := 0) (n := 0) (Nat.le_of_ble_eq_true rfl) (Nat.le_of_ble_eq_true rfl) ?_
          exact fi_z () hx hb hr rfl hlocks hK (hP.sub [0, 1, 2] rfl) (hD.sub [0, 1, 2] (by decide) rfl) hS (pf_X0_goesOnWith_6 pts fd fh d t v_1 v_4 v_6 hp0 hp6 ev_1 c_2 c_3 ev_4 c_5 ev_6 c_7) dX0_goesOnWith_42
        · refine lv_iconst (v := 1) hx hb dX0_goesOnWith_37 (by decide) ?_
          refine lv_goto (tgt := 42) hx hb dX0_goesOnWith_38 (by decide) ?_
          refine W.widen (k := 0) (n := 0) (Nat.le_of_ble_eq_true rfl) (Nat.le_of_ble_eq_true rfl) ?_
          exact fi_z () hx hb hr rfl hlocks hK (hP.sub [0, 1, 2] rfl) (hD.sub [0, 1, 2] (by decide) rfl) hS (pf_X0_goesOnWith_7 pts fd fh d t v_1 v_4 v_6 hp0 hp6 ev_1 c_2 c_3 ev_4 c_5 ev_6 c_7) dX0_goesOnWith_42

theorem iw_X0_addPoint_0 : ∀ w ∈ wsX00, w ∈ wsX0_addPoint := fun w h => (List.mem_cons_of_mem _ (List.mem_append_right _ h))
theorem wd_X0_addPoint_1 : (.fieldLink RX0 34 "PourPlan$Curing" "points" "I" : Cond) ∈ wsX0_addPoint := List.mem_of_getElem? (i := 1) rfl
theorem wd_X0_addPoint_2 : (.fieldLink RX0 18 "PourPlan$Curing" "pointDegrees" "[I" : Cond) ∈ wsX0_addPoint := List.mem_of_getElem? (i := 2) rfl
theorem wd_X0_addPoint_3 : (.fieldLink RX0 21 "PourPlan$Curing" "pointHardness" "[I" : Cond) ∈ wsX0_addPoint := List.mem_of_getElem? (i := 3) rfl
set_option maxHeartbeats 1000000 in
theorem pf_X0_addPoint_1 (pts : Int32) (hp0 : 0 ≤ pts) (c_1 : 6 ≤ pts) : (pts < 6 → pts = pts + 1) := by
  grind
set_option maxHeartbeats 1000000 in
theorem pf_X0_addPoint_2 (pts : Int32) (fd : Nat → Int32) (d : Int32) (hp0 : 0 ≤ pts) (c_1 : 6 ≤ pts) : (pts < 6 → fd = upd fd pts.toNatClampNeg d) := by
  grind
set_option maxHeartbeats 1000000 in
theorem pf_X0_addPoint_3 (pts : Int32) (fh : Nat → Int32) (t : Int32) (hp0 : 0 ≤ pts) (c_1 : 6 ≤ pts) : (pts < 6 → fh = upd fh pts.toNatClampNeg t) := by
  grind
set_option maxHeartbeats 1000000 in
theorem pf_X0_addPoint_4 (pts : Int32) (hp0 : 0 ≤ pts) (c_1 : ¬ 6 ≤ pts) : vp_in pts 6 := by
  exact vi_in (M := 6) rfl (by grind) (by grind)
set_option maxHeartbeats 1000000 in
theorem pf_X0_addPoint_5 (pts : Int32) (hp0 : 0 ≤ pts) (c_1 : ¬ 6 ≤ pts) : vp_in pts 6 := by
  exact vi_in (M := 6) rfl (by grind) (by grind)
set_option maxHeartbeats 1000000 in
theorem pf_X0_addPoint_6 (pts : Int32) (v_2 : Int32) (hp0 : 0 ≤ pts) (c_1 : ¬ 6 ≤ pts) (ev_2 : v_2 = pts + 1) : (pts < 6 → v_2 = pts + 1) := by
  grind
set_option maxHeartbeats 1000000 in
theorem pf_X0_addPoint_7 (pts : Int32) (fd : Nat → Int32) (d : Int32) (v_2 : Int32) (hp0 : 0 ≤ pts) (c_1 : ¬ 6 ≤ pts) (ev_2 : v_2 = pts + 1) : (pts < 6 → (upd fd pts.toNatClampNeg d) = upd fd pts.toNatClampNeg d) := by
  grind
set_option maxHeartbeats 1000000 in
theorem pf_X0_addPoint_8 (pts : Int32) (fh : Nat → Int32) (t : Int32) (v_2 : Int32) (hp0 : 0 ≤ pts) (c_1 : ¬ 6 ≤ pts) (ev_2 : v_2 = pts + 1) : (pts < 6 → (upd fh pts.toNatClampNeg t) = upd fh pts.toNatClampNeg t) := by
  grind
set_option maxHeartbeats 4000000 in
set_option maxRecDepth 100000 in
theorem c_X0_addPoint (l : Launch) (D : va_G) (cI cQ : ClassId) (sz : Nat) (h0 : Nat) (a2 : Nat) (a3 : Nat) (a0 : Nat) (a1 : Nat) (a4 : Nat) (a5 : Nat) (bw : Int32) (pts : Int32) (fd : Nat → Int32) (fh : Nat → Int32) (d : Int32) (t : Int32) (hp0 : 0 ≤ pts) : CtV l yX0_addPoint wsX0_addPoint 0 0 0 0 [.ref h0, .int d, .int t] D [(cI, .int), (cQ, .array .int)] [(h0, .inr (0, [.ref a0, .ref a1, .ref a2, .ref a3, .ref a4, .ref a5, .int bw, .int pts])), (a2, .inl (cI, 6, .inl fd)), (a3, .inl (cI, 6, .inl fh))] sz (fun (u : Int32 × (Nat → Int32) × (Nat → Int32)) => (pts < 6 → u.1 = pts + 1) ∧ (pts < 6 → u.2.1 = upd fd pts.toNatClampNeg d) ∧ (pts < 6 → u.2.2 = upd fh pts.toNatClampNeg t)) (fun (u : Int32 × (Nat → Int32) × (Nat → Int32)) => [(h0, .inr (0, [.ref a0, .ref a1, .ref a2, .ref a3, .ref a4, .ref a5, .int bw, .int u.1])), (a2, .inl (cI, 6, .inl u.2.1)), (a3, .inl (cI, 6, .inl u.2.2))]) := by
  refine Met.ofW (cc := cX0_addPoint) (maxL := 3) (ret := none) (by decide) rfl ?_
  intro p e s m args below meth c s₁ B hml hv
  obtain ⟨rfl, hsz, hP, hK, hD0, hN⟩ := hv
  have hx := B.exec
  have hb := B.bytes
  have hr := B.returns
  have hts := atoms_spec (ws := wsX0_addPoint) B.pre
  have hown : s.vm.findClass RX0 = some m.cls := findClass_of_methodNamed B.named
  have hlocks := B.notSynchronized
  subst hsz
  have hD := hD0.self (sz := s.heap.size)
  generalize hAe : va_A [(h0, .inr (0, [.ref a0, .ref a1, .ref a2, .ref a3, .ref a4, .ref a5, .int bw, .int pts])), (a2, .inl (cI, 6, .inl fd)), (a3, .inl (cI, 6, .inl fh))] s.heap.size = A at hD ⊢
  have hA : ∀ q : Nat, s.heap.size ≤ q → A q := fun q h => by rw [← hAe]; exact Or.inr h
  have hS : va_S A s.heap s.heap [] := va_S.rf
  have hl := lv_entry ([.ref h0, .int d, .int t]) (n := 3) (Nat.le_of_ble_eq_true rfl)
  rw [lg_entry_eq]
  generalize (lg_sl ([.ref h0, .int d, .int t]) ++ List.replicate (3 - (lg_sl ([.ref h0, .int d, .int t])).length) Slot.unset).toArray = ls at hl ⊢
  have hl : lv_has ls 3 [(0, .ref h0), (1, .int d), (2, .int t)] := hl
  have hP0 := hP
  refine lv_aload_n hx hb dX0_addPoint_0 rfl (lv_at hl 0 rfl) ?_
  refine va_get (D := D) (ci := 0) (v := .int pts) (C := RX0) (T := TX0) (N := 8) hx hb hts iw_X0_addPoint_0 hown hK hP 0 rfl rfl 7 (by decide) (hts _ wd_X0_addPoint_1) (fun _ h9 => h9) rfl dX0_addPoint_1 ?_
  refine lv_bipush (v := 6) hx hb dX0_addPoint_4 (by decide) ?_
  refine lv_icmp_ge (tgt := 39) hx hb dX0_addPoint_6 (by decide) (fun c_1 => ?_) (fun c_1 => ?_)
  · refine W.widen (k := 0) (n := 0) (Nat.le_of_ble_eq_true rfl) (Nat.le_of_ble_eq_true rfl) ?_
    exact fi_v (pts, fd, fh) hx hb hr hlocks hK (hP.sub [0, 1, 2] rfl) (hD.sub [0, 1, 2] (by decide) rfl) hS ⟨(pf_X0_addPoint_1 pts hp0 c_1), (pf_X0_addPoint_2 pts fd d hp0 c_1), (pf_X0_addPoint_3 pts fh t hp0 c_1)⟩ dX0_addPoint_39
  · refine lv_aload_n hx hb dX0_addPoint_9 rfl (lv_at hl 0 rfl) ?_
    refine va_get (D := D) (ci := 0) (v := .ref a2) (C := RX0) (T := TX0) (N := 8) hx hb hts iw_X0_addPoint_0 hown hK hP 0 rfl rfl 2 (by decide) (hts _ wd_X0_addPoint_2) (fun _ h9 => h9) rfl dX0_addPoint_10 ?_
    refine lv_aload_n hx hb dX0_addPoint_13 rfl (lv_at hl 0 rfl) ?_
    refine va_get (D := D) (ci := 0) (v := .int pts) (C := RX0) (T := TX0) (N := 8) hx hb hts iw_X0_addPoint_0 hown hK hP 0 rfl rfl 7 (by decide) (hts _ wd_X0_addPoint_1) (fun _ h9 => h9) rfl dX0_addPoint_14 ?_
    refine lv_iload_n hx hb dX0_addPoint_17 rfl (lv_at hl 1 rfl) ?_
    refine va_iast hx hb hK hP hD hS 1 0 rfl rfl (pf_X0_addPoint_4 pts hp0 c_1) dX0_addPoint_18 (fun H locs hP hD hS => ?_)
    have hP : va_P D vwCl [(h0, .inr (0, [.ref a0, .ref a1, .ref a2, .ref a3, .ref a4, .ref a5, .int bw, .int pts])), (a2, .inl (cI, 6, .inl (upd fd pts.toNatClampNeg d))), (a3, .inl (cI, 6, .inl fh))] H := hP
    have hD : va_D A [(h0, .inr (0, [.ref a0, .ref a1, .ref a2, .ref a3, .ref a4, .ref a5, .int bw, .int pts])), (a2, .inl (cI, 6, .inl (upd fd pts.toNatClampNeg d))), (a3, .inl (cI, 6, .inl fh))] := hD
    refine lv_aload_n hx hb dX0_addPoint_19 rfl (lv_at hl 0 rfl) ?_
    refine va_get (D := D) (ci := 0) (v := .ref a3) (C := RX0) (T := TX0) (N := 8) hx hb hts iw_X0_addPoint_0 hown hK hP 0 rfl rfl 3 (by decide) (hts _ wd_X0_addPoint_3) (fun _ h9 => h9) rfl dX0_addPoint_20 ?_
    refine lv_aload_n hx hb dX0_addPoint_23 rfl (lv_at hl 0 rfl) ?_
    refine va_get (D := D) (ci := 0) (v := .int pts) (C := RX0) (T := TX0) (N := 8) hx hb hts iw_X0_addPoint_0 hown hK hP 0 rfl rfl 7 (by decide) (hts _ wd_X0_addPoint_1) (fun _ h9 => h9) rfl dX0_addPoint_24 ?_
    refine lv_iload_n hx hb dX0_addPoint_27 rfl (lv_at hl 2 rfl) ?_
    refine va_iast hx hb hK hP hD hS 2 0 rfl rfl (pf_X0_addPoint_5 pts hp0 c_1) dX0_addPoint_28 (fun H locs hP hD hS => ?_)
    have hP : va_P D vwCl [(h0, .inr (0, [.ref a0, .ref a1, .ref a2, .ref a3, .ref a4, .ref a5, .int bw, .int pts])), (a2, .inl (cI, 6, .inl (upd fd pts.toNatClampNeg d))), (a3, .inl (cI, 6, .inl (upd fh pts.toNatClampNeg t)))] H := hP
    have hD : va_D A [(h0, .inr (0, [.ref a0, .ref a1, .ref a2, .ref a3, .ref a4, .ref a5, .int bw, .int pts])), (a2, .inl (cI, 6, .inl (upd fd pts.toNatClampNeg d))), (a3, .inl (cI, 6, .inl (upd fh pts.toNatClampNeg t)))] := hD
    refine lv_aload_n hx hb dX0_addPoint_29 rfl (lv_at hl 0 rfl) ?_
    refine lv_dup hx hb dX0_addPoint_30 rfl ?_
    refine va_get (D := D) (ci := 0) (v := .int pts) (C := RX0) (T := TX0) (N := 8) hx hb hts iw_X0_addPoint_0 hown hK hP 0 rfl rfl 7 (by decide) (hts _ wd_X0_addPoint_1) (fun _ h9 => h9) rfl dX0_addPoint_31 ?_
    refine lv_iconst (v := 1) hx hb dX0_addPoint_34 (by decide) ?_
    refine lv_iadd hx hb dX0_addPoint_35 ?_
    refine lv_topi (fun v_2 ev_2 => ?_)
    refine va_put (D := D) (ci := 0) (v := .int v_2) (ty := .int) (C := RX0) (T := TX0) (N := 8) hx hb hts iw_X0_addPoint_0 tyX0 tyX0_ok nmX0 hown hK hP hD hS 0 rfl rfl 7 (by decide) (hts _ wd_X0_addPoint_1) (fun _ h9 => h9) rfl (by decide +kernel) rfl rfl (Nat.le_of_ble_eq_true rfl) dX0_addPoint_36 (fun H locs hP hD hS => ?_)
    have hP : va_P D vwCl [(h0, .inr (0, [.ref a0, .ref a1, .ref a2, .ref a3, .ref a4, .ref a5, .int bw, .int v_2])), (a2, .inl (cI, 6, .inl (upd fd pts.toNatClampNeg d))), (a3, .inl (cI, 6, .inl (upd fh pts.toNatClampNeg t)))] H := hP
    have hD : va_D A [(h0, .inr (0, [.ref a0, .ref a1, .ref a2, .ref a3, .ref a4, .ref a5, .int bw, .int v_2])), (a2, .inl (cI, 6, .inl (upd fd pts.toNatClampNeg d))), (a3, .inl (cI, 6, .inl (upd fh pts.toNatClampNeg t)))] := hD
    refine W.widen (k := 0) (n := 0) (Nat.le_of_ble_eq_true rfl) (Nat.le_of_ble_eq_true rfl) ?_
    exact fi_v (v_2, upd fd pts.toNatClampNeg d, upd fh pts.toNatClampNeg t) hx hb hr hlocks hK (hP.sub [0, 1, 2] rfl) (hD.sub [0, 1, 2] (by decide) rfl) hS ⟨(pf_X0_addPoint_6 pts v_2 hp0 c_1 ev_2), (pf_X0_addPoint_7 pts fd d v_2 hp0 c_1 ev_2), (pf_X0_addPoint_8 pts fh t v_2 hp0 c_1 ev_2)⟩ dX0_addPoint_39
