theorem iw_X4_init_4 : ∀ w ∈ wsX40, w ∈ wsX4_init := fun w h => (List.mem_cons_of_mem _ (List.mem_append_right _ h))
theorem wd_X4_init_1 : (.methodLink RX4 3 objectInit : Cond) ∈ wsX4_init := List.mem_of_getElem? (i := 1) rfl
theorem wd_X4_init_2 : (.instanceMethod objectInit : Cond) ∈ wsX4_init := List.mem_of_getElem? (i := 2) rfl
theorem wd_X4_init_3 : (.code objectInit ⟨#[0xb1]⟩ 1 none : Cond) ∈ wsX4_init := List.mem_of_getElem? (i := 3) rfl
theorem wd_X4_init_4 : (.fieldLink RX4 9 "PourPlanModel" "gang" "I" : Cond) ∈ wsX4_init := List.mem_of_getElem? (i := 4) rfl
theorem wd_X4_init_5 : (.fieldLink RX4 15 "PourPlanModel" "strip" "I" : Cond) ∈ wsX4_init := List.mem_of_getElem? (i := 5) rfl
theorem wd_X4_init_6 : (.fieldLink RX4 18 "PourPlanModel" "bear" "I" : Cond) ∈ wsX4_init := List.mem_of_getElem? (i := 6) rfl
theorem wd_X4_init_7 : (.arrayClass .int : Cond) ∈ wsX4_init := List.mem_of_getElem? (i := 7) rfl
theorem wd_X4_init_8 : (.fieldLink RX4 21 "PourPlanModel" "kind" "[I" : Cond) ∈ wsX4_init := List.mem_of_getElem? (i := 8) rfl
theorem wd_X4_init_9 : (.fieldLink RX4 25 "PourPlanModel" "floor" "[I" : Cond) ∈ wsX4_init := List.mem_of_getElem? (i := 9) rfl
theorem wd_X4_init_10 : (.fieldLink RX4 28 "PourPlanModel" "volume" "[I" : Cond) ∈ wsX4_init := List.mem_of_getElem? (i := 10) rfl
theorem wd_X4_init_11 : (.fieldLink RX4 31 "PourPlanModel" "size" "[I" : Cond) ∈ wsX4_init := List.mem_of_getElem? (i := 11) rfl
theorem wd_X4_init_12 : (.fieldLink RX4 34 "PourPlanModel" "faces" "[I" : Cond) ∈ wsX4_init := List.mem_of_getElem? (i := 12) rfl
theorem wd_X4_init_13 : (.fieldLink RX4 37 "PourPlanModel" "when" "[I" : Cond) ∈ wsX4_init := List.mem_of_getElem? (i := 13) rfl
theorem wd_X4_init_14 : (.fieldLink RX4 40 "PourPlanModel" "ahead" "[I" : Cond) ∈ wsX4_init := List.mem_of_getElem? (i := 14) rfl
theorem wd_X4_init_15 : (.fieldLink RX4 43 "PourPlanModel" "order" "[I" : Cond) ∈ wsX4_init := List.mem_of_getElem? (i := 15) rfl
theorem wd_X4_init_16 : (.fieldLink RX4 46 "PourPlanModel" "tried" "[I" : Cond) ∈ wsX4_init := List.mem_of_getElem? (i := 16) rfl
theorem wd_X4_init_17 : (.fieldLink RX4 49 "PourPlanModel" "chosen" "[I" : Cond) ∈ wsX4_init := List.mem_of_getElem? (i := 17) rfl
theorem wd_X4_init_18 : (.fieldLink RX4 52 "PourPlanModel" "forms" "[I" : Cond) ∈ wsX4_init := List.mem_of_getElem? (i := 18) rfl
theorem wd_X4_init_19 : (.fieldLink RX4 55 "PourPlanModel" "warmth" "[I" : Cond) ∈ wsX4_init := List.mem_of_getElem? (i := 19) rfl
theorem wd_X4_init_20 : (.fieldLink RX4 58 "PourPlanModel" "degrees" "[I" : Cond) ∈ wsX4_init := List.mem_of_getElem? (i := 20) rfl
theorem wd_X4_init_21 : (.fieldLink RX4 61 "PourPlanModel" "thousandths" "[I" : Cond) ∈ wsX4_init := List.mem_of_getElem? (i := 21) rfl
theorem wd_X4_init_22 : (.fieldLink RX4 64 "PourPlanModel" "longest" "[I" : Cond) ∈ wsX4_init := List.mem_of_getElem? (i := 22) rfl
set_option maxHeartbeats 1000000 in
theorem pf_X4_init_1 (n_145 : Nat) (i1 : Nat) (k1 : Int32) (f1 : Nat → Int32) (n_167 : Nat) (i2 : Nat) (k2 : Int32) (f2 : Nat → Int32) (n_188 : Nat) (i3 : Nat) (k3 : Int32) (f3 : Nat → Int32) (hn_145 : 40 - i1 < n_145 + 1) (ek1 : k1 = nI i1) (hk1 : i1 ≤ 40) (wk1 : ∀ j, j < i1 → f1 j = 20) (c_16 : 40 ≤ k1) (hn_167 : 3 - i2 < n_167 + 1) (ek2 : k2 = nI i2) (hk2 : i2 ≤ 3) (wk2 : ∀ j, j < i2 → f2 j = 10) (c_17 : 3 ≤ k2) (hn_188 : 100 - i3 < n_188 + 1) (ek3 : k3 = nI i3) (hk3 : i3 ≤ 100) (wk3 : ∀ j, j < i3 → f3 j = (-1)) (c_18 : 100 ≤ k3) : (∀ j, j < 40 → f1 j = 20) := by
  intro j hj
  exact wk1 j (lp_ge (N := 40) ek1 hk1 (by omega) (by assumption) hj)
set_option maxHeartbeats 1000000 in
theorem pf_X4_init_2 (n_145 : Nat) (i1 : Nat) (k1 : Int32) (f1 : Nat → Int32) (n_167 : Nat) (i2 : Nat) (k2 : Int32) (f2 : Nat → Int32) (n_188 : Nat) (i3 : Nat) (k3 : Int32) (f3 : Nat → Int32) (hn_145 : 40 - i1 < n_145 + 1) (ek1 : k1 = nI i1) (hk1 : i1 ≤ 40) (wk1 : ∀ j, j < i1 → f1 j = 20) (c_16 : 40 ≤ k1) (hn_167 : 3 - i2 < n_167 + 1) (ek2 : k2 = nI i2) (hk2 : i2 ≤ 3) (wk2 : ∀ j, j < i2 → f2 j = 10) (c_17 : 3 ≤ k2) (hn_188 : 100 - i3 < n_188 + 1) (ek3 : k3 = nI i3) (hk3 : i3 ≤ 100) (wk3 : ∀ j, j < i3 → f3 j = (-1)) (c_18 : 100 ≤ k3) : (∀ j, j < 3 → f2 j = 10) := by
  intro j hj
  exact wk2 j (lp_ge (N := 3) ek2 hk2 (by omega) (by assumption) hj)
set_option maxHeartbeats 1000000 in
theorem pf_X4_init_3 (n_145 : Nat) (i1 : Nat) (k1 : Int32) (f1 : Nat → Int32) (n_167 : Nat) (i2 : Nat) (k2 : Int32) (f2 : Nat → Int32) (n_188 : Nat) (i3 : Nat) (k3 : Int32) (f3 : Nat → Int32) (hn_145 : 40 - i1 < n_145 + 1) (ek1 : k1 = nI i1) (hk1 : i1 ≤ 40) (wk1 : ∀ j, j < i1 → f1 j = 20) (c_16 : 40 ≤ k1) (hn_167 : 3 - i2 < n_167 + 1) (ek2 : k2 = nI i2) (hk2 : i2 ≤ 3) (wk2 : ∀ j, j < i2 → f2 j = 10) (c_17 : 3 ≤ k2) (hn_188 : 100 - i3 < n_188 + 1) (ek3 : k3 = nI i3) (hk3 : i3 ≤ 100) (wk3 : ∀ j, j < i3 → f3 j = (-1)) (c_18 : ¬ 100 ≤ k3) : vp_in k3 100 := by
  exact lp_in (N := 100) ek3 hk3 (by omega) (by assumption)
set_option maxHeartbeats 1000000 in
theorem pf_X4_init_4 (n_145 : Nat) (i1 : Nat) (k1 : Int32) (f1 : Nat → Int32) (n_167 : Nat) (i2 : Nat) (k2 : Int32) (f2 : Nat → Int32) (n_188 : Nat) (i3 : Nat) (k3 : Int32) (f3 : Nat → Int32) (v_19 : Int32) (hn_145 : 40 - i1 < n_145 + 1) (ek1 : k1 = nI i1) (hk1 : i1 ≤ 40) (wk1 : ∀ j, j < i1 → f1 j = 20) (c_16 : 40 ≤ k1) (hn_167 : 3 - i2 < n_167 + 1) (ek2 : k2 = nI i2) (hk2 : i2 ≤ 3) (wk2 : ∀ j, j < i2 → f2 j = 10) (c_17 : 3 ≤ k2) (hn_188 : 100 - i3 < n_188 + 1) (ek3 : k3 = nI i3) (hk3 : i3 ≤ 100) (wk3 : ∀ j, j < i3 → f3 j = (-1)) (c_18 : ¬ 100 ≤ k3) (ev_19 : v_19 = k3 + 1) : 100 - (i3 + 1) < n_188 := by
  have h9 := lp_lt (N := 100) ek3 hk3 (by omega) (by assumption)
  omega
set_option maxHeartbeats 1000000 in
theorem pf_X4_init_5 (n_145 : Nat) (i1 : Nat) (k1 : Int32) (f1 : Nat → Int32) (n_167 : Nat) (i2 : Nat) (k2 : Int32) (f2 : Nat → Int32) (n_188 : Nat) (i3 : Nat) (k3 : Int32) (f3 : Nat → Int32) (v_19 : Int32) (hn_145 : 40 - i1 < n_145 + 1) (ek1 : k1 = nI i1) (hk1 : i1 ≤ 40) (wk1 : ∀ j, j < i1 → f1 j = 20) (c_16 : 40 ≤ k1) (hn_167 : 3 - i2 < n_167 + 1) (ek2 : k2 = nI i2) (hk2 : i2 ≤ 3) (wk2 : ∀ j, j < i2 → f2 j = 10) (c_17 : 3 ≤ k2) (hn_188 : 100 - i3 < n_188 + 1) (ek3 : k3 = nI i3) (hk3 : i3 ≤ 100) (wk3 : ∀ j, j < i3 → f3 j = (-1)) (c_18 : ¬ 100 ≤ k3) (ev_19 : v_19 = k3 + 1) : v_19 = nI (i3 + 1) := by
  subst_vars
  exact nI_1 i3
set_option maxHeartbeats 1000000 in
theorem pf_X4_init_6 (n_145 : Nat) (i1 : Nat) (k1 : Int32) (f1 : Nat → Int32) (n_167 : Nat) (i2 : Nat) (k2 : Int32) (f2 : Nat → Int32) (n_188 : Nat) (i3 : Nat) (k3 : Int32) (f3 : Nat → Int32) (v_19 : Int32) (hn_145 : 40 - i1 < n_145 + 1) (ek1 : k1 = nI i1) (hk1 : i1 ≤ 40) (wk1 : ∀ j, j < i1 → f1 j = 20) (c_16 : 40 ≤ k1) (hn_167 : 3 - i2 < n_167 + 1) (ek2 : k2 = nI i2) (hk2 : i2 ≤ 3) (wk2 : ∀ j, j < i2 → f2 j = 10) (c_17 : 3 ≤ k2) (hn_188 : 100 - i3 < n_188 + 1) (ek3 : k3 = nI i3) (hk3 : i3 ≤ 100) (wk3 : ∀ j, j < i3 → f3 j = (-1)) (c_18 : ¬ 100 ≤ k3) (ev_19 : v_19 = k3 + 1) : (i3 + 1) ≤ 100 := by
  have h9 := lp_lt (N := 100) ek3 hk3 (by omega) (by assumption)
  omega
set_option maxHeartbeats 1000000 in
theorem pf_X4_init_7 (n_145 : Nat) (i1 : Nat) (k1 : Int32) (f1 : Nat → Int32) (n_167 : Nat) (i2 : Nat) (k2 : Int32) (f2 : Nat → Int32) (n_188 : Nat) (i3 : Nat) (k3 : Int32) (f3 : Nat → Int32) (v_19 : Int32) (hn_145 : 40 - i1 < n_145 + 1) (ek1 : k1 = nI i1) (hk1 : i1 ≤ 40) (wk1 : ∀ j, j < i1 → f1 j = 20) (c_16 : 40 ≤ k1) (hn_167 : 3 - i2 < n_167 + 1) (ek2 : k2 = nI i2) (hk2 : i2 ≤ 3) (wk2 : ∀ j, j < i2 → f2 j = 10) (c_17 : 3 ≤ k2) (hn_188 : 100 - i3 < n_188 + 1) (ek3 : k3 = nI i3) (hk3 : i3 ≤ 100) (wk3 : ∀ j, j < i3 → f3 j = (-1)) (c_18 : ¬ 100 ≤ k3) (ev_19 : v_19 = k3 + 1) : ∀ j, j < (i3 + 1) → (upd f3 k3.toNatClampNeg (-1)) j = (-1) := by
  intro j hj
  rw [nI_cl ek3 (by omega)]
  unfold upd
  split
  · rfl
  · exact wk3 j (by omega)
set_option maxHeartbeats 1000000 in
theorem pf_X4_init_8 (n_145 : Nat) (i1 : Nat) (k1 : Int32) (f1 : Nat → Int32) (n_167 : Nat) (i2 : Nat) (k2 : Int32) (f2 : Nat → Int32) (hn_145 : 40 - i1 < n_145 + 1) (ek1 : k1 = nI i1) (hk1 : i1 ≤ 40) (wk1 : ∀ j, j < i1 → f1 j = 20) (c_16 : 40 ≤ k1) (hn_167 : 3 - i2 < n_167 + 1) (ek2 : k2 = nI i2) (hk2 : i2 ≤ 3) (wk2 : ∀ j, j < i2 → f2 j = 10) (c_17 : 3 ≤ k2) : (0 : Int32) = nI 0 := by
  exact nI_0.symm
set_option maxHeartbeats 1000000 in
theorem pf_X4_init_9 (n_145 : Nat) (i1 : Nat) (k1 : Int32) (f1 : Nat → Int32) (n_167 : Nat) (i2 : Nat) (k2 : Int32) (f2 : Nat → Int32) (hn_145 : 40 - i1 < n_145 + 1) (ek1 : k1 = nI i1) (hk1 : i1 ≤ 40) (wk1 : ∀ j, j < i1 → f1 j = 20) (c_16 : 40 ≤ k1) (hn_167 : 3 - i2 < n_167 + 1) (ek2 : k2 = nI i2) (hk2 : i2 ≤ 3) (wk2 : ∀ j, j < i2 → f2 j = 10) (c_17 : 3 ≤ k2) : 0 ≤ 100 := by
  omega
set_option maxHeartbeats 1000000 in
theorem pf_X4_init_10 (n_145 : Nat) (i1 : Nat) (k1 : Int32) (f1 : Nat → Int32) (n_167 : Nat) (i2 : Nat) (k2 : Int32) (f2 : Nat → Int32) (hn_145 : 40 - i1 < n_145 + 1) (ek1 : k1 = nI i1) (hk1 : i1 ≤ 40) (wk1 : ∀ j, j < i1 → f1 j = 20) (c_16 : 40 ≤ k1) (hn_167 : 3 - i2 < n_167 + 1) (ek2 : k2 = nI i2) (hk2 : i2 ≤ 3) (wk2 : ∀ j, j < i2 → f2 j = 10) (c_17 : 3 ≤ k2) : ∀ j, j < 0 → (fun _ => (0 : Int32)) j = (-1) := by
  omega
set_option maxHeartbeats 1000000 in
theorem pf_X4_init_11 (n_145 : Nat) (i1 : Nat) (k1 : Int32) (f1 : Nat → Int32) (n_167 : Nat) (i2 : Nat) (k2 : Int32) (f2 : Nat → Int32) (hn_145 : 40 - i1 < n_145 + 1) (ek1 : k1 = nI i1) (hk1 : i1 ≤ 40) (wk1 : ∀ j, j < i1 → f1 j = 20) (c_16 : 40 ≤ k1) (hn_167 : 3 - i2 < n_167 + 1) (ek2 : k2 = nI i2) (hk2 : i2 ≤ 3) (wk2 : ∀ j, j < i2 → f2 j = 10) (c_17 : ¬ 3 ≤ k2) : vp_in k2 3 := by
  exact lp_in (N := 3) ek2 hk2 (by omega) (by assumption)
set_option maxHeartbeats 1000000 in
theorem pf_X4_init_12 (n_145 : Nat) (i1 : Nat) (k1 : Int32) (f1 : Nat → Int32) (n_167 : Nat) (i2 : Nat) (k2 : Int32) (f2 : Nat → Int32) (v_20 : Int32) (hn_145 : 40 - i1 < n_145 + 1) (ek1 : k1 = nI i1) (hk1 : i1 ≤ 40) (wk1 : ∀ j, j < i1 → f1 j = 20) (c_16 : 40 ≤ k1) (hn_167 : 3 - i2 < n_167 + 1) (ek2 : k2 = nI i2) (hk2 : i2 ≤ 3) (wk2 : ∀ j, j < i2 → f2 j = 10) (c_17 : ¬ 3 ≤ k2) (ev_20 : v_20 = k2 + 1) : 3 - (i2 + 1) < n_167 := by
  have h9 := lp_lt (N := 3) ek2 hk2 (by omega) (by assumption)
  omega
set_option maxHeartbeats 1000000 in
theorem pf_X4_init_13 (n_145 : Nat) (i1 : Nat) (k1 : Int32) (f1 : Nat → Int32) (n_167 : Nat) (i2 : Nat) (k2 : Int32) (f2 : Nat → Int32) (v_20 : Int32) (hn_145 : 40 - i1 < n_145 + 1) (ek1 : k1 = nI i1) (hk1 : i1 ≤ 40) (wk1 : ∀ j, j < i1 → f1 j = 20) (c_16 : 40 ≤ k1) (hn_167 : 3 - i2 < n_167 + 1) (ek2 : k2 = nI i2) (hk2 : i2 ≤ 3) (wk2 : ∀ j, j < i2 → f2 j = 10) (c_17 : ¬ 3 ≤ k2) (ev_20 : v_20 = k2 + 1) : v_20 = nI (i2 + 1) := by
  subst_vars
  exact nI_1 i2
set_option maxHeartbeats 1000000 in
theorem pf_X4_init_14 (n_145 : Nat) (i1 : Nat) (k1 : Int32) (f1 : Nat → Int32) (n_167 : Nat) (i2 : Nat) (k2 : Int32) (f2 : Nat → Int32) (v_20 : Int32) (hn_145 : 40 - i1 < n_145 + 1) (ek1 : k1 = nI i1) (hk1 : i1 ≤ 40) (wk1 : ∀ j, j < i1 → f1 j = 20) (c_16 : 40 ≤ k1) (hn_167 : 3 - i2 < n_167 + 1) (ek2 : k2 = nI i2) (hk2 : i2 ≤ 3) (wk2 : ∀ j, j < i2 → f2 j = 10) (c_17 : ¬ 3 ≤ k2) (ev_20 : v_20 = k2 + 1) : (i2 + 1) ≤ 3 := by
  have h9 := lp_lt (N := 3) ek2 hk2 (by omega) (by assumption)
  omega
set_option maxHeartbeats 1000000 in
theorem pf_X4_init_15 (n_145 : Nat) (i1 : Nat) (k1 : Int32) (f1 : Nat → Int32) (n_167 : Nat) (i2 : Nat) (k2 : Int32) (f2 : Nat → Int32) (v_20 : Int32) (hn_145 : 40 - i1 < n_145 + 1) (ek1 : k1 = nI i1) (hk1 : i1 ≤ 40) (wk1 : ∀ j, j < i1 → f1 j = 20) (c_16 : 40 ≤ k1) (hn_167 : 3 - i2 < n_167 + 1) (ek2 : k2 = nI i2) (hk2 : i2 ≤ 3) (wk2 : ∀ j, j < i2 → f2 j = 10) (c_17 : ¬ 3 ≤ k2) (ev_20 : v_20 = k2 + 1) : ∀ j, j < (i2 + 1) → (upd f2 k2.toNatClampNeg 10) j = 10 := by
  intro j hj
  rw [nI_cl ek2 (by omega)]
  unfold upd
  split
  · rfl
  · exact wk2 j (by omega)
set_option maxHeartbeats 1000000 in
theorem pf_X4_init_16 (n_145 : Nat) (i1 : Nat) (k1 : Int32) (f1 : Nat → Int32) (hn_145 : 40 - i1 < n_145 + 1) (ek1 : k1 = nI i1) (hk1 : i1 ≤ 40) (wk1 : ∀ j, j < i1 → f1 j = 20) (c_16 : 40 ≤ k1) : (0 : Int32) = nI 0 := by
  exact nI_0.symm
set_option maxHeartbeats 1000000 in
theorem pf_X4_init_17 (n_145 : Nat) (i1 : Nat) (k1 : Int32) (f1 : Nat → Int32) (hn_145 : 40 - i1 < n_145 + 1) (ek1 : k1 = nI i1) (hk1 : i1 ≤ 40) (wk1 : ∀ j, j < i1 → f1 j = 20) (c_16 : 40 ≤ k1) : 0 ≤ 3 := by
  omega
set_option maxHeartbeats 1000000 in
theorem pf_X4_init_18 (n_145 : Nat) (i1 : Nat) (k1 : Int32) (f1 : Nat → Int32) (hn_145 : 40 - i1 < n_145 + 1) (ek1 : k1 = nI i1) (hk1 : i1 ≤ 40) (wk1 : ∀ j, j < i1 → f1 j = 20) (c_16 : 40 ≤ k1) : ∀ j, j < 0 → (fun _ => (0 : Int32)) j = 10 := by
  omega
set_option maxHeartbeats 1000000 in
theorem pf_X4_init_19 (n_145 : Nat) (i1 : Nat) (k1 : Int32) (f1 : Nat → Int32) (hn_145 : 40 - i1 < n_145 + 1) (ek1 : k1 = nI i1) (hk1 : i1 ≤ 40) (wk1 : ∀ j, j < i1 → f1 j = 20) (c_16 : ¬ 40 ≤ k1) : vp_in k1 40 := by
  exact lp_in (N := 40) ek1 hk1 (by omega) (by assumption)
set_option maxHeartbeats 1000000 in
theorem pf_X4_init_20 (n_145 : Nat) (i1 : Nat) (k1 : Int32) (f1 : Nat → Int32) (v_21 : Int32) (hn_145 : 40 - i1 < n_145 + 1) (ek1 : k1 = nI i1) (hk1 : i1 ≤ 40) (wk1 : ∀ j, j < i1 → f1 j = 20) (c_16 : ¬ 40 ≤ k1) (ev_21 : v_21 = k1 + 1) : 40 - (i1 + 1) < n_145 := by
  have h9 := lp_lt (N := 40) ek1 hk1 (by omega) (by assumption)
  omega
set_option maxHeartbeats 1000000 in
theorem pf_X4_init_21 (n_145 : Nat) (i1 : Nat) (k1 : Int32) (f1 : Nat → Int32) (v_21 : Int32) (hn_145 : 40 - i1 < n_145 + 1) (ek1 : k1 = nI i1) (hk1 : i1 ≤ 40) (wk1 : ∀ j, j < i1 → f1 j = 20) (c_16 : ¬ 40 ≤ k1) (ev_21 : v_21 = k1 + 1) : v_21 = nI (i1 + 1) := by
  subst_vars
  exact nI_1 i1
set_option maxHeartbeats 1000000 in
theorem pf_X4_init_22 (n_145 : Nat) (i1 : Nat) (k1 : Int32) (f1 : Nat → Int32) (v_21 : Int32) (hn_145 : 40 - i1 < n_145 + 1) (ek1 : k1 = nI i1) (hk1 : i1 ≤ 40) (wk1 : ∀ j, j < i1 → f1 j = 20) (c_16 : ¬ 40 ≤ k1) (ev_21 : v_21 = k1 + 1) : (i1 + 1) ≤ 40 := by
  have h9 := lp_lt (N := 40) ek1 hk1 (by omega) (by assumption)
  omega
set_option maxHeartbeats 1000000 in
theorem pf_X4_init_23 (n_145 : Nat) (i1 : Nat) (k1 : Int32) (f1 : Nat → Int32) (v_21 : Int32) (hn_145 : 40 - i1 < n_145 + 1) (ek1 : k1 = nI i1) (hk1 : i1 ≤ 40) (wk1 : ∀ j, j < i1 → f1 j = 20) (c_16 : ¬ 40 ≤ k1) (ev_21 : v_21 = k1 + 1) : ∀ j, j < (i1 + 1) → (upd f1 k1.toNatClampNeg 20) j = 20 := by
  intro j hj
  rw [nI_cl ek1 (by omega)]
  unfold upd
  split
  · rfl
  · exact wk1 j (by omega)
set_option maxHeartbeats 1000000 in
theorem pf_X4_init_24   : (0 : Int32) = nI 0 := by
  exact nI_0.symm
set_option maxHeartbeats 1000000 in
theorem pf_X4_init_25   : 0 ≤ 40 := by
  omega
set_option maxHeartbeats 1000000 in
theorem pf_X4_init_26   : ∀ j, j < 0 → (fun _ => (0 : Int32)) j = 20 := by
  omega
set_option maxHeartbeats 4000000 in
set_option maxRecDepth 100000 in
theorem c_X4_init (l : Launch) (D : va_G) (cI : ClassId) (sz : Nat) (y0 : Nat) : CtV l yX4_init wsX4_init 1 12 15 255 [.ref y0] D [(cI, .int)] [(y0, .inr (4, [.int 0, .int 0, .int 0, .int 0, .int 0, .int 0, .int 0, .int 0, .null, .null, .null, .null, .null, .null, .null, .null, .null, .null, .null, .null, .null, .null, .null, .long 0, .long 0]))] sz (fun (u : Nat × Nat × Nat × Nat × Nat × Nat × Nat × Nat × Nat × Nat × Nat × Nat × Nat × Nat × Nat × (Nat → Int32) × (Nat → Int32) × (Nat → Int32) × (Nat → Int32) × (Nat → Int32) × (Nat → Int32) × (Nat → Int32) × (Nat → Int32) × (Nat → Int32) × (Nat → Int32) × (Nat → Int32) × (Nat → Int32) × (Nat → Int32) × (Nat → Int32) × (Nat → Int32)) => (∀ j, j < 40 → u.2.2.2.2.2.2.2.2.2.2.2.2.2.2.2.2.2.2.2.2.2.2.2.2.2.2.1 j = 20) ∧ (∀ j, j < 3 → u.2.2.2.2.2.2.2.2.2.2.2.2.2.2.2.2.2.2.2.2.2.2.2.2.2.1 j = 10)) (fun (u : Nat × Nat × Nat × Nat × Nat × Nat × Nat × Nat × Nat × Nat × Nat × Nat × Nat × Nat × Nat × (Nat → Int32) × (Nat → Int32) × (Nat → Int32) × (Nat → Int32) × (Nat → Int32) × (Nat → Int32) × (Nat → Int32) × (Nat → Int32) × (Nat → Int32) × (Nat → Int32) × (Nat → Int32) × (Nat → Int32) × (Nat → Int32) × (Nat → Int32) × (Nat → Int32)) => [(y0, .inr (4, [.int 0, .int 0, .int 0, .int 0, .int 100, .int 0, .int 500, .int 300, .ref u.1, .ref u.2.1, .ref u.2.2.1, .ref u.2.2.2.1, .ref u.2.2.2.2.1, .ref u.2.2.2.2.2.1, .ref u.2.2.2.2.2.2.1, .ref u.2.2.2.2.2.2.2.1, .ref u.2.2.2.2.2.2.2.2.1, .ref u.2.2.2.2.2.2.2.2.2.1, .ref u.2.2.2.2.2.2.2.2.2.2.1, .ref u.2.2.2.2.2.2.2.2.2.2.2.1, .ref u.2.2.2.2.2.2.2.2.2.2.2.2.1, .ref u.2.2.2.2.2.2.2.2.2.2.2.2.2.1, .ref u.2.2.2.2.2.2.2.2.2.2.2.2.2.2.1, .long 0, .long 0])), (u.1, .inl (cI, 10, .inl u.2.2.2.2.2.2.2.2.2.2.2.2.2.2.2.1)), (u.2.1, .inl (cI, 10, .inl u.2.2.2.2.2.2.2.2.2.2.2.2.2.2.2.2.1)), (u.2.2.1, .inl (cI, 10, .inl u.2.2.2.2.2.2.2.2.2.2.2.2.2.2.2.2.2.1)), (u.2.2.2.1, .inl (cI, 10, .inl u.2.2.2.2.2.2.2.2.2.2.2.2.2.2.2.2.2.2.1)), (u.2.2.2.2.1, .inl (cI, 10, .inl u.2.2.2.2.2.2.2.2.2.2.2.2.2.2.2.2.2.2.2.1)), (u.2.2.2.2.2.1, .inl (cI, 10, .inl u.2.2.2.2.2.2.2.2.2.2.2.2.2.2.2.2.2.2.2.2.1)), (u.2.2.2.2.2.2.1, .inl (cI, 100, .inl u.2.2.2.2.2.2.2.2.2.2.2.2.2.2.2.2.2.2.2.2.2.1)), (u.2.2.2.2.2.2.2.1, .inl (cI, 10, .inl u.2.2.2.2.2.2.2.2.2.2.2.2.2.2.2.2.2.2.2.2.2.2.1)), (u.2.2.2.2.2.2.2.2.1, .inl (cI, 10, .inl u.2.2.2.2.2.2.2.2.2.2.2.2.2.2.2.2.2.2.2.2.2.2.2.1)), (u.2.2.2.2.2.2.2.2.2.1, .inl (cI, 10, .inl u.2.2.2.2.2.2.2.2.2.2.2.2.2.2.2.2.2.2.2.2.2.2.2.2.1)), (u.2.2.2.2.2.2.2.2.2.2.1, .inl (cI, 3, .inl u.2.2.2.2.2.2.2.2.2.2.2.2.2.2.2.2.2.2.2.2.2.2.2.2.2.1)), (u.2.2.2.2.2.2.2.2.2.2.2.1, .inl (cI, 40, .inl u.2.2.2.2.2.2.2.2.2.2.2.2.2.2.2.2.2.2.2.2.2.2.2.2.2.2.1)), (u.2.2.2.2.2.2.2.2.2.2.2.2.1, .inl (cI, 6, .inl u.2.2.2.2.2.2.2.2.2.2.2.2.2.2.2.2.2.2.2.2.2.2.2.2.2.2.2.1)), (u.2.2.2.2.2.2.2.2.2.2.2.2.2.1, .inl (cI, 6, .inl u.2.2.2.2.2.2.2.2.2.2.2.2.2.2.2.2.2.2.2.2.2.2.2.2.2.2.2.2.1)), (u.2.2.2.2.2.2.2.2.2.2.2.2.2.2.1, .inl (cI, 10, .inl u.2.2.2.2.2.2.2.2.2.2.2.2.2.2.2.2.2.2.2.2.2.2.2.2.2.2.2.2.2))]) := by
  refine Met.ofW (cc := cX4_init) (maxL := 2) (ret := none) (by decide) rfl ?_
  intro p e s m args below meth c s₁ B hml hv
  obtain ⟨rfl, hsz, hP, hK, hD0, hN⟩ := hv
  have hx := B.exec
  have hb := B.bytes
  have hr := B.returns
  have hts := atoms_spec (ws := wsX4_init) B.pre
  have hown : s.vm.findClass RX4 = some m.cls := findClass_of_methodNamed B.named
  have hlocks := B.notSynchronized
  have hin : meth.name = "<init>" := (name_of_methodNamed B.named B.method).1
  subst hsz
  have hD := hD0.self (sz := s.heap.size)
  generalize hAe : va_A [(y0, .inr (4, [.int 0, .int 0, .int 0, .int 0, .int 0, .int 0, .int 0, .int 0, .null, .null, .null, .null, .null, .null, .null, .null, .null, .null, .null, .null, .null, .null, .null, .long 0, .long 0]))] s.heap.size = A at hD ⊢
  have hA : ∀ q : Nat, s.heap.size ≤ q → A q := fun q h => by rw [← hAe]; exact Or.inr h
  have hS : va_S A s.heap s.heap [] := va_S.rf
  have hl := lv_entry ([.ref y0]) (n := 2) (Nat.le_of_ble_eq_true rfl)
  rw [lg_entry_eq]
  generalize (lg_sl ([.ref y0]) ++ List.replicate (2 - (lg_sl ([.ref y0])).length) Slot.unset).toArray = ls at hl ⊢
  have hl : lv_has ls 2 [(0, .ref y0)] := hl
  refine W_gen (fun GW hIn hOut => ?_)
  refine hIn _ _ _ _ _ ?_
  have hP0 := hP
  refine lv_aload_n hx hb dX4_init_0 rfl (lv_at hl 0 rfl) ?_
  refine W.objInit hx hb hown (hts _ wd_X4_init_1) (hts _ wd_X4_init_2) (hts _ wd_X4_init_3) rfl (by rw [hml]; exact hl.1) rfl dX4_init_1 (Nat.le_of_ble_eq_true rfl) (Nat.le_of_ble_eq_true rfl) ?_
  refine W.eq (g2 := F0 m 4 ls []) rfl ?_
  refine lv_aload_n hx hb dX4_init_4 rfl (lv_at hl 0 rfl) ?_
  refine lv_bipush (v := 100) hx hb dX4_init_5 (by decide) ?_
  refine va_put (D := D) (ci := 4) (v := .int 100) (ty := .int) (C := RX4) (T := TX4) (N := 25) hx hb hts iw_X4_init_4 tyX4 tyX4_ok nmX4 hown hK hP hD hS 0 rfl rfl 4 (by decide) (hts _ wd_X4_init_4) (fun _ h9 => h9) rfl (by decide +kernel) rfl rfl (Nat.le_of_ble_eq_true rfl) dX4_init_7 (fun H locs hP hD hS => ?_)
  have hP : va_P D vwCl [(y0, .inr (4, [.int 0, .int 0, .int 0, .int 0, .int 100, .int 0, .int 0, .int 0, .null, .null, .null, .null, .null, .null, .null, .null, .null, .null, .null, .null, .null, .null, .null, .long 0, .long 0]))] H := hP
  have hD : va_D A [(y0, .inr (4, [.int 0, .int 0, .int 0, .int 0, .int 100, .int 0, .int 0, .int 0, .null, .null, .null, .null, .null, .null, .null, .null, .null, .null, .null, .null, .null, .null, .null, .long 0, .long 0]))] := hD
  refine lv_aload_n hx hb dX4_init_10 rfl (lv_at hl 0 rfl) ?_
  refine lv_sipush (v := 500) hx hb dX4_init_11 (by decide) ?_
  refine va_put (D := D) (ci := 4) (v := .int 500) (ty := .int) (C := RX4) (T := TX4) (N := 25) hx hb hts iw_X4_init_4 tyX4 tyX4_ok nmX4 hown hK hP hD hS 0 rfl rfl 6 (by decide) (hts _ wd_X4_init_5) (fun _ h9 => h9) rfl (by decide +kernel) rfl rfl (Nat.le_of_ble_eq_true rfl) dX4_init_14 (fun H locs hP hD hS => ?_)
  have hP : va_P D vwCl [(y0, .inr (4, [.int 0, .int 0, .int 0, .int 0, .int 100, .int 0, .int 500, .int 0, .null, .null, .null, .null, .null, .null, .null, .null, .null, .null, .null, .null, .null, .null, .null, .long 0, .long 0]))] H := hP
  have hD : va_D A [(y0, .inr (4, [.int 0, .int 0, .int 0, .int 0, .int 100, .int 0, .int 500, .int 0, .null, .null, .null, .null, .null, .null, .null, .null, .null, .null, .null, .null, .null, .null, .null, .long 0, .long 0]))] := hD
  refine lv_aload_n hx hb dX4_init_17 rfl (lv_at hl 0 rfl) ?_
  refine lv_sipush (v := 300) hx hb dX4_init_18 (by decide) ?_
  refine va_put (D := D) (ci := 4) (v := .int 300) (ty := .int) (C := RX4) (T := TX4) (N := 25) hx hb hts iw_X4_init_4 tyX4 tyX4_ok nmX4 hown hK hP hD hS 0 rfl rfl 7 (by decide) (hts _ wd_X4_init_6) (fun _ h9 => h9) rfl (by decide +kernel) rfl rfl (Nat.le_of_ble_eq_true rfl) dX4_init_21 (fun H locs hP hD hS => ?_)
  have hP : va_P D vwCl [(y0, .inr (4, [.int 0, .int 0, .int 0, .int 0, .int 100, .int 0, .int 500, .int 300, .null, .null, .null, .null, .null, .null, .null, .null, .null, .null, .null, .null, .null, .null, .null, .long 0, .long 0]))] H := hP
  have hD : va_D A [(y0, .inr (4, [.int 0, .int 0, .int 0, .int 0, .int 100, .int 0, .int 500, .int 300, .null, .null, .null, .null, .null, .null, .null, .null, .null, .null, .null, .null, .null, .null, .null, .long 0, .long 0]))] := hD
  refine lv_aload_n hx hb dX4_init_24 rfl (lv_at hl 0 rfl) ?_
  refine lv_bipush (v := 10) hx hb dX4_init_25 (by decide) ?_
  refine va_newa (atype := .int) (a0 := (10, .inl (fun _ => (0 : Int32)))) (N' := 10) hx hb (hts _ wd_X4_init_7) rfl hK hP hD hS hA (fun _ => rfl) (by decide) (by decide) (by decide) (Nat.le_of_ble_eq_true rfl) (Nat.le_of_ble_eq_true rfl) dX4_init_27 (fun q_1 cA H hK hP hD hS => ?_)
  have ecA := (cA_is (t0 := 0) (t1 := 1) hK rfl rfl).symm
  subst ecA
  have hK := hK.sub (tys' := [(cI, .int)]) [0] rfl
  have hP : va_P D vwCl [(y0, .inr (4, [.int 0, .int 0, .int 0, .int 0, .int 100, .int 0, .int 500, .int 300, .null, .null, .null, .null, .null, .null, .null, .null, .null, .null, .null, .null, .null, .null, .null, .long 0, .long 0])), (q_1, .inl (cI, 10, .inl (fun _ => (0 : Int32))))] H := hP
  have hD : va_D A [(y0, .inr (4, [.int 0, .int 0, .int 0, .int 0, .int 100, .int 0, .int 500, .int 300, .null, .null, .null, .null, .null, .null, .null, .null, .null, .null, .null, .null, .null, .null, .null, .long 0, .long 0])), (q_1, .inl (cI, 10, .inl (fun _ => (0 : Int32))))] := hD
  refine W.widen (k := 1) (n := 10) (Nat.le_of_ble_eq_true rfl) (Nat.le_of_ble_eq_true rfl) ?_
  refine va_putF (D := D) (ci := 4) (v := .ref q_1) (ty := .array .int) (C := RX4) (T := TX4) (N := 25) hx hb hts iw_X4_init_4 tyX4 tyX4_ok nmX4 hown hK hP hD hS 0 rfl rfl 8 (by decide) (hts _ wd_X4_init_8) (fun _ h9 => h9) rfl hin rfl (by decide +kernel) rfl rfl (Nat.le_of_ble_eq_true rfl) dX4_init_29 (fun H locs hP hD hS => ?_)
  have hP : va_P D vwCl [(y0, .inr (4, [.int 0, .int 0, .int 0, .int 0, .int 100, .int 0, .int 500, .int 300, .ref q_1, .null, .null, .null, .null, .null, .null, .null, .null, .null, .null, .null, .null, .null, .null, .long 0, .long 0])), (q_1, .inl (cI, 10, .inl (fun _ => (0 : Int32))))] H := hP
  have hD : va_D A [(y0, .inr (4, [.int 0, .int 0, .int 0, .int 0, .int 100, .int 0, .int 500, .int 300, .ref q_1, .null, .null, .null, .null, .null, .null, .null, .null, .null, .null, .null, .null, .null, .null, .long 0, .long 0])), (q_1, .inl (cI, 10, .inl (fun _ => (0 : Int32))))] := hD
  refine lv_aload_n hx hb dX4_init_32 rfl (lv_at hl 0 rfl) ?_
  refine lv_bipush (v := 10) hx hb dX4_init_33 (by decide) ?_
  refine va_newa (atype := .int) (a0 := (10, .inl (fun _ => (0 : Int32)))) (N' := 10) hx hb (hts _ wd_X4_init_7) rfl hK hP hD hS hA (fun _ => rfl) (by decide) (by decide) (by decide) (Nat.le_of_ble_eq_true rfl) (Nat.le_of_ble_eq_true rfl) dX4_init_35 (fun q_2 cA H hK hP hD hS => ?_)
  have ecA := (cA_is (t0 := 0) (t1 := 1) hK rfl rfl).symm
  subst ecA
  have hK := hK.sub (tys' := [(cI, .int)]) [0] rfl
  have hP : va_P D vwCl [(y0, .inr (4, [.int 0, .int 0, .int 0, .int 0, .int 100, .int 0, .int 500, .int 300, .ref q_1, .null, .null, .null, .null, .null, .null, .null, .null, .null, .null, .null, .null, .null, .null, .long 0, .long 0])), (q_1, .inl (cI, 10, .inl (fun _ => (0 : Int32)))), (q_2, .inl (cI, 10, .inl (fun _ => (0 : Int32))))] H := hP
  have hD : va_D A [(y0, .inr (4, [.int 0, .int 0, .int 0, .int 0, .int 100, .int 0, .int 500, .int 300, .ref q_1, .null, .null, .null, .null, .null, .null, .null, .null, .null, .null, .null, .null, .null, .null, .long 0, .long 0])), (q_1, .inl (cI, 10, .inl (fun _ => (0 : Int32)))), (q_2, .inl (cI, 10, .inl (fun _ => (0 : Int32))))] := hD
  refine W.widen (k := 2) (n := 20) (Nat.le_of_ble_eq_true rfl) (Nat.le_of_ble_eq_true rfl) ?_
  refine va_putF (D := D) (ci := 4) (v := .ref q_2) (ty := .array .int) (C := RX4) (T := TX4) (N := 25) hx hb hts iw_X4_init_4 tyX4 tyX4_ok nmX4 hown hK hP hD hS 0 rfl rfl 9 (by decide) (hts _ wd_X4_init_9) (fun _ h9 => h9) rfl hin rfl (by decide +kernel) rfl rfl (Nat.le_of_ble_eq_true rfl) dX4_init_37 (fun H locs hP hD hS => ?_)
  have hP : va_P D vwCl [(y0, .inr (4, [.int 0, .int 0, .int 0, .int 0, .int 100, .int 0, .int 500, .int 300, .ref q_1, .ref q_2, .null, .null, .null, .null, .null, .null, .null, .null, .null, .null, .null, .null, .null, .long 0, .long 0])), (q_1, .inl (cI, 10, .inl (fun _ => (0 : Int32)))), (q_2, .inl (cI, 10, .inl (fun _ => (0 : Int32))))] H := hP
  have hD : va_D A [(y0, .inr (4, [.int 0, .int 0, .int 0, .int 0, .int 100, .int 0, .int 500, .int 300, .ref q_1, .ref q_2, .null, .null, .null, .null, .null, .null, .null, .null, .null, .null, .null, .null, .null, .long 0, .long 0])), (q_1, .inl (cI, 10, .inl (fun _ => (0 : Int32)))), (q_2, .inl (cI, 10, .inl (fun _ => (0 : Int32))))] := hD
  refine lv_aload_n hx hb dX4_init_40 rfl (lv_at hl 0 rfl) ?_
  refine lv_bipush (v := 10) hx hb dX4_init_41 (by decide) ?_
  refine va_newa (atype := .int) (a0 := (10, .inl (fun _ => (0 : Int32)))) (N' := 10) hx hb (hts _ wd_X4_init_7) rfl hK hP hD hS hA (fun _ => rfl) (by decide) (by decide) (by decide) (Nat.le_of_ble_eq_true rfl) (Nat.le_of_ble_eq_true rfl) dX4_init_43 (fun q_3 cA H hK hP hD hS => ?_)
  have ecA := (cA_is (t0 := 0) (t1 := 1) hK rfl rfl).symm
  subst ecA
  have hK := hK.sub (tys' := [(cI, .int)]) [0] rfl
  have hP : va_P D vwCl [(y0, .inr (4, [.int 0, .int 0, .int 0, .int 0, .int 100, .int 0, .int 500, .int 300, .ref q_1, .ref q_2, .null, .null, .null, .null, .null, .null, .null, .null, .null, .null, .null, .null, .null, .long 0, .long 0])), (q_1, .inl (cI, 10, .inl (fun _ => (0 : Int32)))), (q_2, .inl (cI, 10, .inl (fun _ => (0 : Int32)))), (q_3, .inl (cI, 10, .inl (fun _ => (0 : Int32))))] H := hP
  have hD : va_D A [(y0, .inr (4, [.int 0, .int 0, .int 0, .int 0, .int 100, .int 0, .int 500, .int 300, .ref q_1, .ref q_2, .null, .null, .null, .null, .null, .null, .null, .null, .null, .null, .null, .null, .null, .long 0, .long 0])), (q_1, .inl (cI, 10, .inl (fun _ => (0 : Int32)))), (q_2, .inl (cI, 10, .inl (fun _ => (0 : Int32)))), (q_3, .inl (cI, 10, .inl (fun _ => (0 : Int32))))] := hD
  refine W.widen (k := 3) (n := 30) (Nat.le_of_ble_eq_true rfl) (Nat.le_of_ble_eq_true rfl) ?_
  refine va_putF (D := D) (ci := 4) (v := .ref q_3) (ty := .array .int) (C := RX4) (T := TX4) (N := 25) hx hb hts iw_X4_init_4 tyX4 tyX4_ok nmX4 hown hK hP hD hS 0 rfl rfl 10 (by decide) (hts _ wd_X4_init_10) (fun _ h9 => h9) rfl hin rfl (by decide +kernel) rfl rfl (Nat.le_of_ble_eq_true rfl) dX4_init_45 (fun H locs hP hD hS => ?_)
  have hP : va_P D vwCl [(y0, .inr (4, [.int 0, .int 0, .int 0, .int 0, .int 100, .int 0, .int 500, .int 300, .ref q_1, .ref q_2, .ref q_3, .null, .null, .null, .null, .null, .null, .null, .null, .null, .null, .null, .null, .long 0, .long 0])), (q_1, .inl (cI, 10, .inl (fun _ => (0 : Int32)))), (q_2, .inl (cI, 10, .inl (fun _ => (0 : Int32)))), (q_3, .inl (cI, 10, .inl (fun _ => (0 : Int32))))] H := hP
  have hD : va_D A [(y0, .inr (4, [.int 0, .int 0, .int 0, .int 0, .int 100, .int 0, .int 500, .int 300, .ref q_1, .ref q_2, .ref q_3, .null, .null, .null, .null, .null, .null, .null, .null, .null, .null, .null, .null, .long 0, .long 0])), (q_1, .inl (cI, 10, .inl (fun _ => (0 : Int32)))), (q_2, .inl (cI, 10, .inl (fun _ => (0 : Int32)))), (q_3, .inl (cI, 10, .inl (fun _ => (0 : Int32))))] := hD
  refine lv_aload_n hx hb dX4_init_48 rfl (lv_at hl 0 rfl) ?_
  refine lv_bipush (v := 10) hx hb dX4_init_49 (by decide) ?_
  refine va_newa (atype := .int) (a0 := (10, .inl (fun _ => (0 : Int32)))) (N' := 10) hx hb (hts _ wd_X4_init_7) rfl hK hP hD hS hA (fun _ => rfl) (by decide) (by decide) (by decide) (Nat.le_of_ble_eq_true rfl) (Nat.le_of_ble_eq_true rfl) dX4_init_51 (fun q_4 cA H hK hP hD hS => ?_)
  have ecA := (cA_is (t0 := 0) (t1 := 1) hK rfl rfl).symm
  subst ecA
  have hK := hK.sub (tys' := [(cI, .int)]) [0] rfl
  have hP : va_P D vwCl [(y0, .inr (4, [.int 0, .int 0, .int 0, .int 0, .int 100, .int 0, .int 500, .int 300, .ref q_1, .ref q_2, .ref q_3, .null, .null, .null, .null, .null, .null, .null, .null, .null, .null, .null, .null, .long 0, .long 0])), (q_1, .inl (cI, 10, .inl (fun _ => (0 : Int32)))), (q_2, .inl (cI, 10, .inl (fun _ => (0 : Int32)))), (q_3, .inl (cI, 10, .inl (fun _ => (0 : Int32)))), (q_4, .inl (cI, 10, .inl (fun _ => (0 : Int32))))] H := hP
  have hD : va_D A [(y0, .inr (4, [.int 0, .int 0, .int 0, .int 0, .int 100, .int 0, .int 500, .int 300, .ref q_1, .ref q_2, .ref q_3, .null, .null, .null, .null, .null, .null, .null, .null, .null, .null, .null, .null, .long 0, .long 0])), (q_1, .inl (cI, 10, .inl (fun _ => (0 : Int32)))), (q_2, .inl (cI, 10, .inl (fun _ => (0 : Int32)))), (q_3, .inl (cI, 10, .inl (fun _ => (0 : Int32)))), (q_4, .inl (cI, 10, .inl (fun _ => (0 : Int32))))] := hD
  refine W.widen (k := 4) (n := 40) (Nat.le_of_ble_eq_true rfl) (Nat.le_of_ble_eq_true rfl) ?_
  refine va_putF (D := D) (ci := 4) (v := .ref q_4) (ty := .array .int) (C := RX4) (T := TX4) (N := 25) hx hb hts iw_X4_init_4 tyX4 tyX4_ok nmX4 hown hK hP hD hS 0 rfl rfl 11 (by decide) (hts _ wd_X4_init_11) (fun _ h9 => h9) rfl hin rfl (by decide +kernel) rfl rfl (Nat.le_of_ble_eq_true rfl) dX4_init_53 (fun H locs hP hD hS => ?_)
  have hP : va_P D vwCl [(y0, .inr (4, [.int 0, .int 0, .int 0, .int 0, .int 100, .int 0, .int 500, .int 300, .ref q_1, .ref q_2, .ref q_3, .ref q_4, .null, .null, .null, .null, .null, .null, .null, .null, .null, .null, .null, .long 0, .long 0])), (q_1, .inl (cI, 10, .inl (fun _ => (0 : Int32)))), (q_2, .inl (cI, 10, .inl (fun _ => (0 : Int32)))), (q_3, .inl (cI, 10, .inl (fun _ => (0 : Int32)))), (q_4, .inl (cI, 10, .inl (fun _ => (0 : Int32))))] H := hP
  have hD : va_D A [(y0, .inr (4, [.int 0, .int 0, .int 0, .int 0, .int 100, .int 0, .int 500, .int 300, .ref q_1, .ref q_2, .ref q_3, .ref q_4, .null, .null, .null, .null, .null, .null, .null, .null, .null, .null, .null, .long 0, .long 0])), (q_1, .inl (cI, 10, .inl (fun _ => (0 : Int32)))), (q_2, .inl (cI, 10, .inl (fun _ => (0 : Int32)))), (q_3, .inl (cI, 10, .inl (fun _ => (0 : Int32)))), (q_4, .inl (cI, 10, .inl (fun _ => (0 : Int32))))] := hD
  refine lv_aload_n hx hb dX4_init_56 rfl (lv_at hl 0 rfl) ?_
  refine lv_bipush (v := 10) hx hb dX4_init_57 (by decide) ?_
  refine va_newa (atype := .int) (a0 := (10, .inl (fun _ => (0 : Int32)))) (N' := 10) hx hb (hts _ wd_X4_init_7) rfl hK hP hD hS hA (fun _ => rfl) (by decide) (by decide) (by decide) (Nat.le_of_ble_eq_true rfl) (Nat.le_of_ble_eq_true rfl) dX4_init_59 (fun q_5 cA H hK hP hD hS => ?_)
  have ecA := (cA_is (t0 := 0) (t1 := 1) hK rfl rfl).symm
  subst ecA
  have hK := hK.sub (tys' := [(cI, .int)]) [0] rfl
  have hP : va_P D vwCl [(y0, .inr (4, [.int 0, .int 0, .int 0, .int 0, .int 100, .int 0, .int 500, .int 300, .ref q_1, .ref q_2, .ref q_3, .ref q_4, .null, .null, .null, .null, .null, .null, .null, .null, .null, .null, .null, .long 0, .long 0])), (q_1, .inl (cI, 10, .inl (fun _ => (0 : Int32)))), (q_2, .inl (cI, 10, .inl (fun _ => (0 : Int32)))), (q_3, .inl (cI, 10, .inl (fun _ => (0 : Int32)))), (q_4, .inl (cI, 10, .inl (fun _ => (0 : Int32)))), (q_5, .inl (cI, 10, .inl (fun _ => (0 : Int32))))] H := hP
  have hD : va_D A [(y0, .inr (4, [.int 0, .int 0, .int 0, .int 0, .int 100, .int 0, .int 500, .int 300, .ref q_1, .ref q_2, .ref q_3, .ref q_4, .null, .null, .null, .null, .null, .null, .null, .null, .null, .null, .null, .long 0, .long 0])), (q_1, .inl (cI, 10, .inl (fun _ => (0 : Int32)))), (q_2, .inl (cI, 10, .inl (fun _ => (0 : Int32)))), (q_3, .inl (cI, 10, .inl (fun _ => (0 : Int32)))), (q_4, .inl (cI, 10, .inl (fun _ => (0 : Int32)))), (q_5, .inl (cI, 10, .inl (fun _ => (0 : Int32))))] := hD
  refine W.widen (k := 5) (n := 50) (Nat.le_of_ble_eq_true rfl) (Nat.le_of_ble_eq_true rfl) ?_
  refine va_putF (D := D) (ci := 4) (v := .ref q_5) (ty := .array .int) (C := RX4) (T := TX4) (N := 25) hx hb hts iw_X4_init_4 tyX4 tyX4_ok nmX4 hown hK hP hD hS 0 rfl rfl 12 (by decide) (hts _ wd_X4_init_12) (fun _ h9 => h9) rfl hin rfl (by decide +kernel) rfl rfl (Nat.le_of_ble_eq_true rfl) dX4_init_61 (fun H locs hP hD hS => ?_)
  have hP : va_P D vwCl [(y0, .inr (4, [.int 0, .int 0, .int 0, .int 0, .int 100, .int 0, .int 500, .int 300, .ref q_1, .ref q_2, .ref q_3, .ref q_4, .ref q_5, .null, .null, .null, .null, .null, .null, .null, .null, .null, .null, .long 0, .long 0])), (q_1, .inl (cI, 10, .inl (fun _ => (0 : Int32)))), (q_2, .inl (cI, 10, .inl (fun _ => (0 : Int32)))), (q_3, .inl (cI, 10, .inl (fun _ => (0 : Int32)))), (q_4, .inl (cI, 10, .inl (fun _ => (0 : Int32)))), (q_5, .inl (cI, 10, .inl (fun _ => (0 : Int32))))] H := hP
  have hD : va_D A [(y0, .inr (4, [.int 0, .int 0, .int 0, .int 0, .int 100, .int 0, .int 500, .int 300, .ref q_1, .ref q_2, .ref q_3, .ref q_4, .ref q_5, .null, .null, .null, .null, .null, .null, .null, .null, .null, .null, .long 0, .long 0])), (q_1, .inl (cI, 10, .inl (fun _ => (0 : Int32)))), (q_2, .inl (cI, 10, .inl (fun _ => (0 : Int32)))), (q_3, .inl (cI, 10, .inl (fun _ => (0 : Int32)))), (q_4, .inl (cI, 10, .inl (fun _ => (0 : Int32)))), (q_5, .inl (cI, 10, .inl (fun _ => (0 : Int32))))] := hD
  refine lv_aload_n hx hb dX4_init_64 rfl (lv_at hl 0 rfl) ?_
  refine lv_bipush (v := 10) hx hb dX4_init_65 (by decide) ?_
  refine va_newa (atype := .int) (a0 := (10, .inl (fun _ => (0 : Int32)))) (N' := 10) hx hb (hts _ wd_X4_init_7) rfl hK hP hD hS hA (fun _ => rfl) (by decide) (by decide) (by decide) (Nat.le_of_ble_eq_true rfl) (Nat.le_of_ble_eq_true rfl) dX4_init_67 (fun q_6 cA H hK hP hD hS => ?_)
  have ecA := (cA_is (t0 := 0) (t1 := 1) hK rfl rfl).symm
  subst ecA
  have hK := hK.sub (tys' := [(cI, .int)]) [0] rfl
  have hP : va_P D vwCl [(y0, .inr (4, [.int 0, .int 0, .int 0, .int 0, .int 100, .int 0, .int 500, .int 300, .ref q_1, .ref q_2, .ref q_3, .ref q_4, .ref q_5, .null, .null, .null, .null, .null, .null, .null, .null, .null, .null, .long 0, .long 0])), (q_1, .inl (cI, 10, .inl (fun _ => (0 : Int32)))), (q_2, .inl (cI, 10, .inl (fun _ => (0 : Int32)))), (q_3, .inl (cI, 10, .inl (fun _ => (0 : Int32)))), (q_4, .inl (cI, 10, .inl (fun _ => (0 : Int32)))), (q_5, .inl (cI, 10, .inl (fun _ => (0 : Int32)))), (q_6, .inl (cI, 10, .inl (fun _ => (0 : Int32))))] H := hP
  have hD : va_D A [(y0, .inr (4, [.int 0, .int 0, .int 0, .int 0, .int 100, .int 0, .int 500, .int 300, .ref q_1, .ref q_2, .ref q_3, .ref q_4, .ref q_5, .null, .null, .null, .null, .null, .null, .null, .null, .null, .null, .long 0, .long 0])), (q_1, .inl (cI, 10, .inl (fun _ => (0 : Int32)))), (q_2, .inl (cI, 10, .inl (fun _ => (0 : Int32)))), (q_3, .inl (cI, 10, .inl (fun _ => (0 : Int32)))), (q_4, .inl (cI, 10, .inl (fun _ => (0 : Int32)))), (q_5, .inl (cI, 10, .inl (fun _ => (0 : Int32)))), (q_6, .inl (cI, 10, .inl (fun _ => (0 : Int32))))] := hD
  refine W.widen (k := 6) (n := 60) (Nat.le_of_ble_eq_true rfl) (Nat.le_of_ble_eq_true rfl) ?_
  refine va_putF (D := D) (ci := 4) (v := .ref q_6) (ty := .array .int) (C := RX4) (T := TX4) (N := 25) hx hb hts iw_X4_init_4 tyX4 tyX4_ok nmX4 hown hK hP hD hS 0 rfl rfl 13 (by decide) (hts _ wd_X4_init_13) (fun _ h9 => h9) rfl hin rfl (by decide +kernel) rfl rfl (Nat.le_of_ble_eq_true rfl) dX4_init_69 (fun H locs hP hD hS => ?_)
  have hP : va_P D vwCl [(y0, .inr (4, [.int 0, .int 0, .int 0, .int 0, .int 100, .int 0, .int 500, .int 300, .ref q_1, .ref q_2, .ref q_3, .ref q_4, .ref q_5, .ref q_6, .null, .null, .null, .null, .null, .null, .null, .null, .null, .long 0, .long 0])), (q_1, .inl (cI, 10, .inl (fun _ => (0 : Int32)))), (q_2, .inl (cI, 10, .inl (fun _ => (0 : Int32)))), (q_3, .inl (cI, 10, .inl (fun _ => (0 : Int32)))), (q_4, .inl (cI, 10, .inl (fun _ => (0 : Int32)))), (q_5, .inl (cI, 10, .inl (fun _ => (0 : Int32)))), (q_6, .inl (cI, 10, .inl (fun _ => (0 : Int32))))] H := hP
  have hD : va_D A [(y0, .inr (4, [.int 0, .int 0, .int 0, .int 0, .int 100, .int 0, .int 500, .int 300, .ref q_1, .ref q_2, .ref q_3, .ref q_4, .ref q_5, .ref q_6, .null, .null, .null, .null, .null, .null, .null, .null, .null, .long 0, .long 0])), (q_1, .inl (cI, 10, .inl (fun _ => (0 : Int32)))), (q_2, .inl (cI, 10, .inl (fun _ => (0 : Int32)))), (q_3, .inl (cI, 10, .inl (fun _ => (0 : Int32)))), (q_4, .inl (cI, 10, .inl (fun _ => (0 : Int32)))), (q_5, .inl (cI, 10, .inl (fun _ => (0 : Int32)))), (q_6, .inl (cI, 10, .inl (fun _ => (0 : Int32))))] := hD
  refine lv_aload_n hx hb dX4_init_72 rfl (lv_at hl 0 rfl) ?_
  refine lv_bipush (v := 100) hx hb dX4_init_73 (by decide) ?_
  refine va_newa (atype := .int) (a0 := (100, .inl (fun _ => (0 : Int32)))) (N' := 100) hx hb (hts _ wd_X4_init_7) rfl hK hP hD hS hA (fun _ => rfl) (by decide) (by decide) (by decide) (Nat.le_of_ble_eq_true rfl) (Nat.le_of_ble_eq_true rfl) dX4_init_75 (fun q_7 cA H hK hP hD hS => ?_)
  have ecA := (cA_is (t0 := 0) (t1 := 1) hK rfl rfl).symm
  subst ecA
  have hK := hK.sub (tys' := [(cI, .int)]) [0] rfl
  have hP : va_P D vwCl [(y0, .inr (4, [.int 0, .int 0, .int 0, .int 0, .int 100, .int 0, .int 500, .int 300, .ref q_1, .ref q_2, .ref q_3, .ref q_4, .ref q_5, .ref q_6, .null, .null, .null, .null, .null, .null, .null, .null, .null, .long 0, .long 0])), (q_1, .inl (cI, 10, .inl (fun _ => (0 : Int32)))), (q_2, .inl (cI, 10, .inl (fun _ => (0 : Int32)))), (q_3, .inl (cI, 10, .inl (fun _ => (0 : Int32)))), (q_4, .inl (cI, 10, .inl (fun _ => (0 : Int32)))), (q_5, .inl (cI, 10, .inl (fun _ => (0 : Int32)))), (q_6, .inl (cI, 10, .inl (fun _ => (0 : Int32)))), (q_7, .inl (cI, 100, .inl (fun _ => (0 : Int32))))] H := hP
  have hD : va_D A [(y0, .inr (4, [.int 0, .int 0, .int 0, .int 0, .int 100, .int 0, .int 500, .int 300, .ref q_1, .ref q_2, .ref q_3, .ref q_4, .ref q_5, .ref q_6, .null, .null, .null, .null, .null, .null, .null, .null, .null, .long 0, .long 0])), (q_1, .inl (cI, 10, .inl (fun _ => (0 : Int32)))), (q_2, .inl (cI, 10, .inl (fun _ => (0 : Int32)))), (q_3, .inl (cI, 10, .inl (fun _ => (0 : Int32)))), (q_4, .inl (cI, 10, .inl (fun _ => (0 : Int32)))), (q_5, .inl (cI, 10, .inl (fun _ => (0 : Int32)))), (q_6, .inl (cI, 10, .inl (fun _ => (0 : Int32)))), (q_7, .inl (cI, 100, .inl (fun _ => (0 : Int32))))] := hD
  refine W.widen (k := 7) (n := 160) (Nat.le_of_ble_eq_true rfl) (Nat.le_of_ble_eq_true rfl) ?_
  refine va_putF (D := D) (ci := 4) (v := .ref q_7) (ty := .array .int) (C := RX4) (T := TX4) (N := 25) hx hb hts iw_X4_init_4 tyX4 tyX4_ok nmX4 hown hK hP hD hS 0 rfl rfl 14 (by decide) (hts _ wd_X4_init_14) (fun _ h9 => h9) rfl hin rfl (by decide +kernel) rfl rfl (Nat.le_of_ble_eq_true rfl) dX4_init_77 (fun H locs hP hD hS => ?_)
  have hP : va_P D vwCl [(y0, .inr (4, [.int 0, .int 0, .int 0, .int 0, .int 100, .int 0, .int 500, .int 300, .ref q_1, .ref q_2, .ref q_3, .ref q_4, .ref q_5, .ref q_6, .ref q_7, .null, .null, .null, .null, .null, .null, .null, .null, .long 0, .long 0])), (q_1, .inl (cI, 10, .inl (fun _ => (0 : Int32)))), (q_2, .inl (cI, 10, .inl (fun _ => (0 : Int32)))), (q_3, .inl (cI, 10, .inl (fun _ => (0 : Int32)))), (q_4, .inl (cI, 10, .inl (fun _ => (0 : Int32)))), (q_5, .inl (cI, 10, .inl (fun _ => (0 : Int32)))), (q_6, .inl (cI, 10, .inl (fun _ => (0 : Int32)))), (q_7, .inl (cI, 100, .inl (fun _ => (0 : Int32))))] H := hP
  have hD : va_D A [(y0, .inr (4, [.int 0, .int 0, .int 0, .int 0, .int 100, .int 0, .int 500, .int 300, .ref q_1, .ref q_2, .ref q_3, .ref q_4, .ref q_5, .ref q_6, .ref q_7, .null, .null, .null, .null, .null, .null, .null, .null, .long 0, .long 0])), (q_1, .inl (cI, 10, .inl (fun _ => (0 : Int32)))), (q_2, .inl (cI, 10, .inl (fun _ => (0 : Int32)))), (q_3, .inl (cI, 10, .inl (fun _ => (0 : Int32)))), (q_4, .inl (cI, 10, .inl (fun _ => (0 : Int32)))), (q_5, .inl (cI, 10, .inl (fun _ => (0 : Int32)))), (q_6, .inl (cI, 10, .inl (fun _ => (0 : Int32)))), (q_7, .inl (cI, 100, .inl (fun _ => (0 : Int32))))] := hD
  refine lv_aload_n hx hb dX4_init_80 rfl (lv_at hl 0 rfl) ?_
  refine lv_bipush (v := 10) hx hb dX4_init_81 (by decide) ?_
  refine va_newa (atype := .int) (a0 := (10, .inl (fun _ => (0 : Int32)))) (N' := 10) hx hb (hts _ wd_X4_init_7) rfl hK hP hD hS hA (fun _ => rfl) (by decide) (by decide) (by decide) (Nat.le_of_ble_eq_true rfl) (Nat.le_of_ble_eq_true rfl) dX4_init_83 (fun q_8 cA H hK hP hD hS => ?_)
  have ecA := (cA_is (t0 := 0) (t1 := 1) hK rfl rfl).symm
  subst ecA
  have hK := hK.sub (tys' := [(cI, .int)]) [0] rfl
  have hP : va_P D vwCl [(y0, .inr (4, [.int 0, .int 0, .int 0, .int 0, .int 100, .int 0, .int 500, .int 300, .ref q_1, .ref q_2, .ref q_3, .ref q_4, .ref q_5, .ref q_6, .ref q_7, .null, .null, .null, .null, .null, .null, .null, .null, .long 0, .long 0])), (q_1, .inl (cI, 10, .inl (fun _ => (0 : Int32)))), (q_2, .inl (cI, 10, .inl (fun _ => (0 : Int32)))), (q_3, .inl (cI, 10, .inl (fun _ => (0 : Int32)))), (q_4, .inl (cI, 10, .inl (fun _ => (0 : Int32)))), (q_5, .inl (cI, 10, .inl (fun _ => (0 : Int32)))), (q_6, .inl (cI, 10, .inl (fun _ => (0 : Int32)))), (q_7, .inl (cI, 100, .inl (fun _ => (0 : Int32)))), (q_8, .inl (cI, 10, .inl (fun _ => (0 : Int32))))] H := hP
  have hD : va_D A [(y0, .inr (4, [.int 0, .int 0, .int 0, .int 0, .int 100, .int 0, .int 500, .int 300, .ref q_1, .ref q_2, .ref q_3, .ref q_4, .ref q_5, .ref q_6, .ref q_7, .null, .null, .null, .null, .null, .null, .null, .null, .long 0, .long 0])), (q_1, .inl (cI, 10, .inl (fun _ => (0 : Int32)))), (q_2, .inl (cI, 10, .inl (fun _ => (0 : Int32)))), (q_3, .inl (cI, 10, .inl (fun _ => (0 : Int32)))), (q_4, .inl (cI, 10, .inl (fun _ => (0 : Int32)))), (q_5, .inl (cI, 10, .inl (fun _ => (0 : Int32)))), (q_6, .inl (cI, 10, .inl (fun _ => (0 : Int32)))), (q_7, .inl (cI, 100, .inl (fun _ => (0 : Int32)))), (q_8, .inl (cI, 10, .inl (fun _ => (0 : Int32))))] := hD
  refine W.widen (k := 8) (n := 170) (Nat.le_of_ble_eq_true rfl) (Nat.le_of_ble_eq_true rfl) ?_
  refine va_putF (D := D) (ci := 4) (v := .ref q_8) (ty := .array .int) (C := RX4) (T := TX4) (N := 25) hx hb hts iw_X4_init_4 tyX4 tyX4_ok nmX4 hown hK hP hD hS 0 rfl rfl 15 (by decide) (hts _ wd_X4_init_15) (fun _ h9 => h9) rfl hin rfl (by decide +kernel) rfl rfl (Nat.le_of_ble_eq_true rfl) dX4_init_85 (fun H locs hP hD hS => ?_)
  have hP : va_P D vwCl [(y0, .inr (4, [.int 0, .int 0, .int 0, .int 0, .int 100, .int 0, .int 500, .int 300, .ref q_1, .ref q_2, .ref q_3, .ref q_4, .ref q_5, .ref q_6, .ref q_7, .ref q_8, .null, .null, .null, .null, .null, .null, .null, .long 0, .long 0])), (q_1, .inl (cI, 10, .inl (fun _ => (0 : Int32)))), (q_2, .inl (cI, 10, .inl (fun _ => (0 : Int32)))), (q_3, .inl (cI, 10, .inl (fun _ => (0 : Int32)))), (q_4, .inl (cI, 10, .inl (fun _ => (0 : Int32)))), (q_5, .inl (cI, 10, .inl (fun _ => (0 : Int32)))), (q_6, .inl (cI, 10, .inl (fun _ => (0 : Int32)))), (q_7, .inl (cI, 100, .inl (fun _ => (0 : Int32)))), (q_8, .inl (cI, 10, .inl (fun _ => (0 : Int32))))] H := hP
  have hD : va_D A [(y0, .inr (4, [.int 0, .int 0, .int 0, .int 0, .int 100, .int 0, .int 500, .int 300, .ref q_1, .ref q_2, .ref q_3, .ref q_4, .ref q_5, .ref q_6, .ref q_7, .ref q_8, .null, .null, .null, .null, .null, .null, .null, .long 0, .long 0])), (q_1, .inl (cI, 10, .inl (fun _ => (0 : Int32)))), (q_2, .inl (cI, 10, .inl (fun _ => (0 : Int32)))), (q_3, .inl (cI, 10, .inl (fun _ => (0 : Int32)))), (q_4, .inl (cI, 10, .inl (fun _ => (0 : Int32)))), (q_5, .inl (cI, 10, .inl (fun _ => (0 : Int32)))), (q_6, .inl (cI, 10, .inl (fun _ => (0 : Int32)))), (q_7, .inl (cI, 100, .inl (fun _ => (0 : Int32)))), (q_8, .inl (cI, 10, .inl (fun _ => (0 : Int32))))] := hD
  refine lv_aload_n hx hb dX4_init_88 rfl (lv_at hl 0 rfl) ?_
  refine lv_bipush (v := 10) hx hb dX4_init_89 (by decide) ?_
  refine va_newa (atype := .int) (a0 := (10, .inl (fun _ => (0 : Int32)))) (N' := 10) hx hb (hts _ wd_X4_init_7) rfl hK hP hD hS hA (fun _ => rfl) (by decide) (by decide) (by decide) (Nat.le_of_ble_eq_true rfl) (Nat.le_of_ble_eq_true rfl) dX4_init_91 (fun q_9 cA H hK hP hD hS => ?_)
  have ecA := (cA_is (t0 := 0) (t1 := 1) hK rfl rfl).symm
  subst ecA
  have hK := hK.sub (tys' := [(cI, .int)]) [0] rfl
  have hP : va_P D vwCl [(y0, .inr (4, [.int 0, .int 0, .int 0, .int 0, .int 100, .int 0, .int 500, .int 300, .ref q_1, .ref q_2, .ref q_3, .ref q_4, .ref q_5, .ref q_6, .ref q_7, .ref q_8, .null, .null, .null, .null, .null, .null, .null, .long 0, .long 0])), (q_1, .inl (cI, 10, .inl (fun _ => (0 : Int32)))), (q_2, .inl (cI, 10, .inl (fun _ => (0 : Int32)))), (q_3, .inl (cI, 10, .inl (fun _ => (0 : Int32)))), (q_4, .inl (cI, 10, .inl (fun _ => (0 : Int32)))), (q_5, .inl (cI, 10, .inl (fun _ => (0 : Int32)))), (q_6, .inl (cI, 10, .inl (fun _ => (0 : Int32)))), (q_7, .inl (cI, 100, .inl (fun _ => (0 : Int32)))), (q_8, .inl (cI, 10, .inl (fun _ => (0 : Int32)))), (q_9, .inl (cI, 10, .inl (fun _ => (0 : Int32))))] H := hP
  have hD : va_D A [(y0, .inr (4, [.int 0, .int 0, .int 0, .int 0, .int 100, .int 0, .int 500, .int 300, .ref q_1, .ref q_2, .ref q_3, .ref q_4, .ref q_5, .ref q_6, .ref q_7, .ref q_8, .null, .null, .null, .null, .null, .null, .null, .long 0, .long 0])), (q_1, .inl (cI, 10, .inl (fun _ => (0 : Int32)))), (q_2, .inl (cI, 10, .inl (fun _ => (0 : Int32)))), (q_3, .inl (cI, 10, .inl (fun _ => (0 : Int32)))), (q_4, .inl (cI, 10, .inl (fun _ => (0 : Int32)))), (q_5, .inl (cI, 10, .inl (fun _ => (0 : Int32)))), (q_6, .inl (cI, 10, .inl (fun _ => (0 : Int32)))), (q_7, .inl (cI, 100, .inl (fun _ => (0 : Int32)))), (q_8, .inl (cI, 10, .inl (fun _ => (0 : Int32)))), (q_9, .inl (cI, 10, .inl (fun _ => (0 : Int32))))] := hD
  refine W.widen (k := 9) (n := 180) (Nat.le_of_ble_eq_true rfl) (Nat.le_of_ble_eq_true rfl) ?_
  refine va_putF (D := D) (ci := 4) (v := .ref q_9) (ty := .array .int) (C := RX4) (T := TX4) (N := 25) hx hb hts iw_X4_init_4 tyX4 tyX4_ok nmX4 hown hK hP hD hS 0 rfl rfl 16 (by decide) (hts _ wd_X4_init_16) (fun _ h9 => h9) rfl hin rfl (by decide +kernel) rfl rfl (Nat.le_of_ble_eq_true rfl) dX4_init_93 (fun H locs hP hD hS => ?_)
  have hP : va_P D vwCl [(y0, .inr (4, [.int 0, .int 0, .int 0, .int 0, .int 100, .int 0, .int 500, .int 300, .ref q_1, .ref q_2, .ref q_3, .ref q_4, .ref q_5, .ref q_6, .ref q_7, .ref q_8, .ref q_9, .null, .null, .null, .null, .null, .null, .long 0, .long 0])), (q_1, .inl (cI, 10, .inl (fun _ => (0 : Int32)))), (q_2, .inl (cI, 10, .inl (fun _ => (0 : Int32)))), (q_3, .inl (cI, 10, .inl (fun _ => (0 : Int32)))), (q_4, .inl (cI, 10, .inl (fun _ => (0 : Int32)))), (q_5, .inl (cI, 10, .inl (fun _ => (0 : Int32)))), (q_6, .inl (cI, 10, .inl (fun _ => (0 : Int32)))), (q_7, .inl (cI, 100, .inl (fun _ => (0 : Int32)))), (q_8, .inl (cI, 10, .inl (fun _ => (0 : Int32)))), (q_9, .inl (cI, 10, .inl (fun _ => (0 : Int32))))] H := hP
  have hD : va_D A [(y0, .inr (4, [.int 0, .int 0, .int 0, .int 0, .int 100, .int 0, .int 500, .int 300, .ref q_1, .ref q_2, .ref q_3, .ref q_4, .ref q_5, .ref q_6, .ref q_7, .ref q_8, .ref q_9, .null, .null, .null, .null, .null, .null, .long 0, .long 0])), (q_1, .inl (cI, 10, .inl (fun _ => (0 : Int32)))), (q_2, .inl (cI, 10, .inl (fun _ => (0 : Int32)))), (q_3, .inl (cI, 10, .inl (fun _ => (0 : Int32)))), (q_4, .inl (cI, 10, .inl (fun _ => (0 : Int32)))), (q_5, .inl (cI, 10, .inl (fun _ => (0 : Int32)))), (q_6, .inl (cI, 10, .inl (fun _ => (0 : Int32)))), (q_7, .inl (cI, 100, .inl (fun _ => (0 : Int32)))), (q_8, .inl (cI, 10, .inl (fun _ => (0 : Int32)))), (q_9, .inl (cI, 10, .inl (fun _ => (0 : Int32))))] := hD
  refine lv_aload_n hx hb dX4_init_96 rfl (lv_at hl 0 rfl) ?_
  refine lv_bipush (v := 10) hx hb dX4_init_97 (by decide) ?_
  refine va_newa (atype := .int) (a0 := (10, .inl (fun _ => (0 : Int32)))) (N' := 10) hx hb (hts _ wd_X4_init_7) rfl hK hP hD hS hA (fun _ => rfl) (by decide) (by decide) (by decide) (Nat.le_of_ble_eq_true rfl) (Nat.le_of_ble_eq_true rfl) dX4_init_99 (fun q_10 cA H hK hP hD hS => ?_)
  have ecA := (cA_is (t0 := 0) (t1 := 1) hK rfl rfl).symm
  subst ecA
  have hK := hK.sub (tys' := [(cI, .int)]) [0] rfl
  have hP : va_P D vwCl [(y0, .inr (4, [.int 0, .int 0, .int 0, .int 0, .int 100, .int 0, .int 500, .int 300, .ref q_1, .ref q_2, .ref q_3, .ref q_4, .ref q_5, .ref q_6, .ref q_7, .ref q_8, .ref q_9, .null, .null, .null, .null, .null, .null, .long 0, .long 0])), (q_1, .inl (cI, 10, .inl (fun _ => (0 : Int32)))), (q_2, .inl (cI, 10, .inl (fun _ => (0 : Int32)))), (q_3, .inl (cI, 10, .inl (fun _ => (0 : Int32)))), (q_4, .inl (cI, 10, .inl (fun _ => (0 : Int32)))), (q_5, .inl (cI, 10, .inl (fun _ => (0 : Int32)))), (q_6, .inl (cI, 10, .inl (fun _ => (0 : Int32)))), (q_7, .inl (cI, 100, .inl (fun _ => (0 : Int32)))), (q_8, .inl (cI, 10, .inl (fun _ => (0 : Int32)))), (q_9, .inl (cI, 10, .inl (fun _ => (0 : Int32)))), (q_10, .inl (cI, 10, .inl (fun _ => (0 : Int32))))] H := hP
  have hD : va_D A [(y0, .inr (4, [.int 0, .int 0, .int 0, .int 0, .int 100, .int 0, .int 500, .int 300, .ref q_1, .ref q_2, .ref q_3, .ref q_4, .ref q_5, .ref q_6, .ref q_7, .ref q_8, .ref q_9, .null, .null, .null, .null, .null, .null, .long 0, .long 0])), (q_1, .inl (cI, 10, .inl (fun _ => (0 : Int32)))), (q_2, .inl (cI, 10, .inl (fun _ => (0 : Int32)))), (q_3, .inl (cI, 10, .inl (fun _ => (0 : Int32)))), (q_4, .inl (cI, 10, .inl (fun _ => (0 : Int32)))), (q_5, .inl (cI, 10, .inl (fun _ => (0 : Int32)))), (q_6, .inl (cI, 10, .inl (fun _ => (0 : Int32)))), (q_7, .inl (cI, 100, .inl (fun _ => (0 : Int32)))), (q_8, .inl (cI, 10, .inl (fun _ => (0 : Int32)))), (q_9, .inl (cI, 10, .inl (fun _ => (0 : Int32)))), (q_10, .inl (cI, 10, .inl (fun _ => (0 : Int32))))] := hD
  refine W.widen (k := 10) (n := 190) (Nat.le_of_ble_eq_true rfl) (Nat.le_of_ble_eq_true rfl) ?_
  refine va_putF (D := D) (ci := 4) (v := .ref q_10) (ty := .array .int) (C := RX4) (T := TX4) (N := 25) hx hb hts iw_X4_init_4 tyX4 tyX4_ok nmX4 hown hK hP hD hS 0 rfl rfl 17 (by decide) (hts _ wd_X4_init_17) (fun _ h9 => h9) rfl hin rfl (by decide +kernel) rfl rfl (Nat.le_of_ble_eq_true rfl) dX4_init_101 (fun H locs hP hD hS => ?_)
  have hP : va_P D vwCl [(y0, .inr (4, [.int 0, .int 0, .int 0, .int 0, .int 100, .int 0, .int 500, .int 300, .ref q_1, .ref q_2, .ref q_3, .ref q_4, .ref q_5, .ref q_6, .ref q_7, .ref q_8, .ref q_9, .ref q_10, .null, .null, .null, .null, .null, .long 0, .long 0])), (q_1, .inl (cI, 10, .inl (fun _ => (0 : Int32)))), (q_2, .inl (cI, 10, .inl (fun _ => (0 : Int32)))), (q_3, .inl (cI, 10, .inl (fun _ => (0 : Int32)))), (q_4, .inl (cI, 10, .inl (fun _ => (0 : Int32)))), (q_5, .inl (cI, 10, .inl (fun _ => (0 : Int32)))), (q_6, .inl (cI, 10, .inl (fun _ => (0 : Int32)))), (q_7, .inl (cI, 100, .inl (fun _ => (0 : Int32)))), (q_8, .inl (cI, 10, .inl (fun _ => (0 : Int32)))), (q_9, .inl (cI, 10, .inl (fun _ => (0 : Int32)))), (q_10, .inl (cI, 10, .inl (fun _ => (0 : Int32))))] H := hP
  have hD : va_D A [(y0, .inr (4, [.int 0, .int 0, .int 0, .int 0, .int 100, .int 0, .int 500, .int 300, .ref q_1, .ref q_2, .ref q_3, .ref q_4, .ref q_5, .ref q_6, .ref q_7, .ref q_8, .ref q_9, .ref q_10, .null, .null, .null, .null, .null, .long 0, .long 0])), (q_1, .inl (cI, 10, .inl (fun _ => (0 : Int32)))), (q_2, .inl (cI, 10, .inl (fun _ => (0 : Int32)))), (q_3, .inl (cI, 10, .inl (fun _ => (0 : Int32)))), (q_4, .inl (cI, 10, .inl (fun _ => (0 : Int32)))), (q_5, .inl (cI, 10, .inl (fun _ => (0 : Int32)))), (q_6, .inl (cI, 10, .inl (fun _ => (0 : Int32)))), (q_7, .inl (cI, 100, .inl (fun _ => (0 : Int32)))), (q_8, .inl (cI, 10, .inl (fun _ => (0 : Int32)))), (q_9, .inl (cI, 10, .inl (fun _ => (0 : Int32)))), (q_10, .inl (cI, 10, .inl (fun _ => (0 : Int32))))] := hD
  refine lv_aload_n hx hb dX4_init_104 rfl (lv_at hl 0 rfl) ?_
  refine lv_iconst (v := 3) hx hb dX4_init_105 (by decide) ?_
  refine va_newa (atype := .int) (a0 := (3, .inl (fun _ => (0 : Int32)))) (N' := 3) hx hb (hts _ wd_X4_init_7) rfl hK hP hD hS hA (fun _ => rfl) (by decide) (by decide) (by decide) (Nat.le_of_ble_eq_true rfl) (Nat.le_of_ble_eq_true rfl) dX4_init_106 (fun q_11 cA H hK hP hD hS => ?_)
  have ecA := (cA_is (t0 := 0) (t1 := 1) hK rfl rfl).symm
  subst ecA
  have hK := hK.sub (tys' := [(cI, .int)]) [0] rfl
  have hP : va_P D vwCl [(y0, .inr (4, [.int 0, .int 0, .int 0, .int 0, .int 100, .int 0, .int 500, .int 300, .ref q_1, .ref q_2, .ref q_3, .ref q_4, .ref q_5, .ref q_6, .ref q_7, .ref q_8, .ref q_9, .ref q_10, .null, .null, .null, .null, .null, .long 0, .long 0])), (q_1, .inl (cI, 10, .inl (fun _ => (0 : Int32)))), (q_2, .inl (cI, 10, .inl (fun _ => (0 : Int32)))), (q_3, .inl (cI, 10, .inl (fun _ => (0 : Int32)))), (q_4, .inl (cI, 10, .inl (fun _ => (0 : Int32)))), (q_5, .inl (cI, 10, .inl (fun _ => (0 : Int32)))), (q_6, .inl (cI, 10, .inl (fun _ => (0 : Int32)))), (q_7, .inl (cI, 100, .inl (fun _ => (0 : Int32)))), (q_8, .inl (cI, 10, .inl (fun _ => (0 : Int32)))), (q_9, .inl (cI, 10, .inl (fun _ => (0 : Int32)))), (q_10, .inl (cI, 10, .inl (fun _ => (0 : Int32)))), (q_11, .inl (cI, 3, .inl (fun _ => (0 : Int32))))] H := hP
  have hD : va_D A [(y0, .inr (4, [.int 0, .int 0, .int 0, .int 0, .int 100, .int 0, .int 500, .int 300, .ref q_1, .ref q_2, .ref q_3, .ref q_4, .ref q_5, .ref q_6, .ref q_7, .ref q_8, .ref q_9, .ref q_10, .null, .null, .null, .null, .null, .long 0, .long 0])), (q_1, .inl (cI, 10, .inl (fun _ => (0 : Int32)))), (q_2, .inl (cI, 10, .inl (fun _ => (0 : Int32)))), (q_3, .inl (cI, 10, .inl (fun _ => (0 : Int32)))), (q_4, .inl (cI, 10, .inl (fun _ => (0 : Int32)))), (q_5, .inl (cI, 10, .inl (fun _ => (0 : Int32)))), (q_6, .inl (cI, 10, .inl (fun _ => (0 : Int32)))), (q_7, .inl (cI, 100, .inl (fun _ => (0 : Int32)))), (q_8, .inl (cI, 10, .inl (fun _ => (0 : Int32)))), (q_9, .inl (cI, 10, .inl (fun _ => (0 : Int32)))), (q_10, .inl (cI, 10, .inl (fun _ => (0 : Int32)))), (q_11, .inl (cI, 3, .inl (fun _ => (0 : Int32))))] := hD
  refine W.widen (k := 11) (n := 193) (Nat.le_of_ble_eq_true rfl) (Nat.le_of_ble_eq_true rfl) ?_
  refine va_putF (D := D) (ci := 4) (v := .ref q_11) (ty := .array .int) (C := RX4) (T := TX4) (N := 25) hx hb hts iw_X4_init_4 tyX4 tyX4_ok nmX4 hown hK hP hD hS 0 rfl rfl 18 (by decide) (hts _ wd_X4_init_18) (fun _ h9 => h9) rfl hin rfl (by decide +kernel) rfl rfl (Nat.le_of_ble_eq_true rfl) dX4_init_108 (fun H locs hP hD hS => ?_)
  have hP : va_P D vwCl [(y0, .inr (4, [.int 0, .int 0, .int 0, .int 0, .int 100, .int 0, .int 500, .int 300, .ref q_1, .ref q_2, .ref q_3, .ref q_4, .ref q_5, .ref q_6, .ref q_7, .ref q_8, .ref q_9, .ref q_10, .ref q_11, .null, .null, .null, .null, .long 0, .long 0])), (q_1, .inl (cI, 10, .inl (fun _ => (0 : Int32)))), (q_2, .inl (cI, 10, .inl (fun _ => (0 : Int32)))), (q_3, .inl (cI, 10, .inl (fun _ => (0 : Int32)))), (q_4, .inl (cI, 10, .inl (fun _ => (0 : Int32)))), (q_5, .inl (cI, 10, .inl (fun _ => (0 : Int32)))), (q_6, .inl (cI, 10, .inl (fun _ => (0 : Int32)))), (q_7, .inl (cI, 100, .inl (fun _ => (0 : Int32)))), (q_8, .inl (cI, 10, .inl (fun _ => (0 : Int32)))), (q_9, .inl (cI, 10, .inl (fun _ => (0 : Int32)))), (q_10, .inl (cI, 10, .inl (fun _ => (0 : Int32)))), (q_11, .inl (cI, 3, .inl (fun _ => (0 : Int32))))] H := hP
  have hD : va_D A [(y0, .inr (4, [.int 0, .int 0, .int 0, .int 0, .int 100, .int 0, .int 500, .int 300, .ref q_1, .ref q_2, .ref q_3, .ref q_4, .ref q_5, .ref q_6, .ref q_7, .ref q_8, .ref q_9, .ref q_10, .ref q_11, .null, .null, .null, .null, .long 0, .long 0])), (q_1, .inl (cI, 10, .inl (fun _ => (0 : Int32)))), (q_2, .inl (cI, 10, .inl (fun _ => (0 : Int32)))), (q_3, .inl (cI, 10, .inl (fun _ => (0 : Int32)))), (q_4, .inl (cI, 10, .inl (fun _ => (0 : Int32)))), (q_5, .inl (cI, 10, .inl (fun _ => (0 : Int32)))), (q_6, .inl (cI, 10, .inl (fun _ => (0 : Int32)))), (q_7, .inl (cI, 100, .inl (fun _ => (0 : Int32)))), (q_8, .inl (cI, 10, .inl (fun _ => (0 : Int32)))), (q_9, .inl (cI, 10, .inl (fun _ => (0 : Int32)))), (q_10, .inl (cI, 10, .inl (fun _ => (0 : Int32)))), (q_11, .inl (cI, 3, .inl (fun _ => (0 : Int32))))] := hD
  refine lv_aload_n hx hb dX4_init_111 rfl (lv_at hl 0 rfl) ?_
  refine lv_bipush (v := 40) hx hb dX4_init_112 (by decide) ?_
  refine va_newa (atype := .int) (a0 := (40, .inl (fun _ => (0 : Int32)))) (N' := 40) hx hb (hts _ wd_X4_init_7) rfl hK hP hD hS hA (fun _ => rfl) (by decide) (by decide) (by decide) (Nat.le_of_ble_eq_true rfl) (Nat.le_of_ble_eq_true rfl) dX4_init_114 (fun q_12 cA H hK hP hD hS => ?_)
  have ecA := (cA_is (t0 := 0) (t1 := 1) hK rfl rfl).symm
  subst ecA
  have hK := hK.sub (tys' := [(cI, .int)]) [0] rfl
  have hP : va_P D vwCl [(y0, .inr (4, [.int 0, .int 0, .int 0, .int 0, .int 100, .int 0, .int 500, .int 300, .ref q_1, .ref q_2, .ref q_3, .ref q_4, .ref q_5, .ref q_6, .ref q_7, .ref q_8, .ref q_9, .ref q_10, .ref q_11, .null, .null, .null, .null, .long 0, .long 0])), (q_1, .inl (cI, 10, .inl (fun _ => (0 : Int32)))), (q_2, .inl (cI, 10, .inl (fun _ => (0 : Int32)))), (q_3, .inl (cI, 10, .inl (fun _ => (0 : Int32)))), (q_4, .inl (cI, 10, .inl (fun _ => (0 : Int32)))), (q_5, .inl (cI, 10, .inl (fun _ => (0 : Int32)))), (q_6, .inl (cI, 10, .inl (fun _ => (0 : Int32)))), (q_7, .inl (cI, 100, .inl (fun _ => (0 : Int32)))), (q_8, .inl (cI, 10, .inl (fun _ => (0 : Int32)))), (q_9, .inl (cI, 10, .inl (fun _ => (0 : Int32)))), (q_10, .inl (cI, 10, .inl (fun _ => (0 : Int32)))), (q_11, .inl (cI, 3, .inl (fun _ => (0 : Int32)))), (q_12, .inl (cI, 40, .inl (fun _ => (0 : Int32))))] H := hP
  have hD : va_D A [(y0, .inr (4, [.int 0, .int 0, .int 0, .int 0, .int 100, .int 0, .int 500, .int 300, .ref q_1, .ref q_2, .ref q_3, .ref q_4, .ref q_5, .ref q_6, .ref q_7, .ref q_8, .ref q_9, .ref q_10, .ref q_11, .null, .null, .null, .null, .long 0, .long 0])), (q_1, .inl (cI, 10, .inl (fun _ => (0 : Int32)))), (q_2, .inl (cI, 10, .inl (fun _ => (0 : Int32)))), (q_3, .inl (cI, 10, .inl (fun _ => (0 : Int32)))), (q_4, .inl (cI, 10, .inl (fun _ => (0 : Int32)))), (q_5, .inl (cI, 10, .inl (fun _ => (0 : Int32)))), (q_6, .inl (cI, 10, .inl (fun _ => (0 : Int32)))), (q_7, .inl (cI, 100, .inl (fun _ => (0 : Int32)))), (q_8, .inl (cI, 10, .inl (fun _ => (0 : Int32)))), (q_9, .inl (cI, 10, .inl (fun _ => (0 : Int32)))), (q_10, .inl (cI, 10, .inl (fun _ => (0 : Int32)))), (q_11, .inl (cI, 3, .inl (fun _ => (0 : Int32)))), (q_12, .inl (cI, 40, .inl (fun _ => (0 : Int32))))] := hD
  refine W.widen (k := 12) (n := 233) (Nat.le_of_ble_eq_true rfl) (Nat.le_of_ble_eq_true rfl) ?_
  refine va_putF (D := D) (ci := 4) (v := .ref q_12) (ty := .array .int) (C := RX4) (T := TX4) (N := 25) hx hb hts iw_X4_init_4 tyX4 tyX4_ok nmX4 hown hK hP hD hS 0 rfl rfl 19 (by decide) (hts _ wd_X4_init_19) (fun _ h9 => h9) rfl hin rfl (by decide +kernel) rfl rfl (Nat.le_of_ble_eq_true rfl) dX4_init_116 (fun H locs hP hD hS => ?_)
  have hP : va_P D vwCl [(y0, .inr (4, [.int 0, .int 0, .int 0, .int 0, .int 100, .int 0, .int 500, .int 300, .ref q_1, .ref q_2, .ref q_3, .ref q_4, .ref q_5, .ref q_6, .ref q_7, .ref q_8, .ref q_9, .ref q_10, .ref q_11, .ref q_12, .null, .null, .null, .long 0, .long 0])), (q_1, .inl (cI, 10, .inl (fun _ => (0 : Int32)))), (q_2, .inl (cI, 10, .inl (fun _ => (0 : Int32)))), (q_3, .inl (cI, 10, .inl (fun _ => (0 : Int32)))), (q_4, .inl (cI, 10, .inl (fun _ => (0 : Int32)))), (q_5, .inl (cI, 10, .inl (fun _ => (0 : Int32)))), (q_6, .inl (cI, 10, .inl (fun _ => (0 : Int32)))), (q_7, .inl (cI, 100, .inl (fun _ => (0 : Int32)))), (q_8, .inl (cI, 10, .inl (fun _ => (0 : Int32)))), (q_9, .inl (cI, 10, .inl (fun _ => (0 : Int32)))), (q_10, .inl (cI, 10, .inl (fun _ => (0 : Int32)))), (q_11, .inl (cI, 3, .inl (fun _ => (0 : Int32)))), (q_12, .inl (cI, 40, .inl (fun _ => (0 : Int32))))] H := hP
  have hD : va_D A [(y0, .inr (4, [.int 0, .int 0, .int 0, .int 0, .int 100, .int 0, .int 500, .int 300, .ref q_1, .ref q_2, .ref q_3, .ref q_4, .ref q_5, .ref q_6, .ref q_7, .ref q_8, .ref q_9, .ref q_10, .ref q_11, .ref q_12, .null, .null, .null, .long 0, .long 0])), (q_1, .inl (cI, 10, .inl (fun _ => (0 : Int32)))), (q_2, .inl (cI, 10, .inl (fun _ => (0 : Int32)))), (q_3, .inl (cI, 10, .inl (fun _ => (0 : Int32)))), (q_4, .inl (cI, 10, .inl (fun _ => (0 : Int32)))), (q_5, .inl (cI, 10, .inl (fun _ => (0 : Int32)))), (q_6, .inl (cI, 10, .inl (fun _ => (0 : Int32)))), (q_7, .inl (cI, 100, .inl (fun _ => (0 : Int32)))), (q_8, .inl (cI, 10, .inl (fun _ => (0 : Int32)))), (q_9, .inl (cI, 10, .inl (fun _ => (0 : Int32)))), (q_10, .inl (cI, 10, .inl (fun _ => (0 : Int32)))), (q_11, .inl (cI, 3, .inl (fun _ => (0 : Int32)))), (q_12, .inl (cI, 40, .inl (fun _ => (0 : Int32))))] := hD
  refine lv_aload_n hx hb dX4_init_119 rfl (lv_at hl 0 rfl) ?_
  refine lv_bipush (v := 6) hx hb dX4_init_120 (by decide) ?_
  refine va_newa (atype := .int) (a0 := (6, .inl (fun _ => (0 : Int32)))) (N' := 6) hx hb (hts _ wd_X4_init_7) rfl hK hP hD hS hA (fun _ => rfl) (by decide) (by decide) (by decide) (Nat.le_of_ble_eq_true rfl) (Nat.le_of_ble_eq_true rfl) dX4_init_122 (fun q_13 cA H hK hP hD hS => ?_)
  have ecA := (cA_is (t0 := 0) (t1 := 1) hK rfl rfl).symm
  subst ecA
  have hK := hK.sub (tys' := [(cI, .int)]) [0] rfl
  have hP : va_P D vwCl [(y0, .inr (4, [.int 0, .int 0, .int 0, .int 0, .int 100, .int 0, .int 500, .int 300, .ref q_1, .ref q_2, .ref q_3, .ref q_4, .ref q_5, .ref q_6, .ref q_7, .ref q_8, .ref q_9, .ref q_10, .ref q_11, .ref q_12, .null, .null, .null, .long 0, .long 0])), (q_1, .inl (cI, 10, .inl (fun _ => (0 : Int32)))), (q_2, .inl (cI, 10, .inl (fun _ => (0 : Int32)))), (q_3, .inl (cI, 10, .inl (fun _ => (0 : Int32)))), (q_4, .inl (cI, 10, .inl (fun _ => (0 : Int32)))), (q_5, .inl (cI, 10, .inl (fun _ => (0 : Int32)))), (q_6, .inl (cI, 10, .inl (fun _ => (0 : Int32)))), (q_7, .inl (cI, 100, .inl (fun _ => (0 : Int32)))), (q_8, .inl (cI, 10, .inl (fun _ => (0 : Int32)))), (q_9, .inl (cI, 10, .inl (fun _ => (0 : Int32)))), (q_10, .inl (cI, 10, .inl (fun _ => (0 : Int32)))), (q_11, .inl (cI, 3, .inl (fun _ => (0 : Int32)))), (q_12, .inl (cI, 40, .inl (fun _ => (0 : Int32)))), (q_13, .inl (cI, 6, .inl (fun _ => (0 : Int32))))] H := hP
  have hD : va_D A [(y0, .inr (4, [.int 0, .int 0, .int 0, .int 0, .int 100, .int 0, .int 500, .int 300, .ref q_1, .ref q_2, .ref q_3, .ref q_4, .ref q_5, .ref q_6, .ref q_7, .ref q_8, .ref q_9, .ref q_10, .ref q_11, .ref q_12, .null, .null, .null, .long 0, .long 0])), (q_1, .inl (cI, 10, .inl (fun _ => (0 : Int32)))), (q_2, .inl (cI, 10, .inl (fun _ => (0 : Int32)))), (q_3, .inl (cI, 10, .inl (fun _ => (0 : Int32)))), (q_4, .inl (cI, 10, .inl (fun _ => (0 : Int32)))), (q_5, .inl (cI, 10, .inl (fun _ => (0 : Int32)))), (q_6, .inl (cI, 10, .inl (fun _ => (0 : Int32)))), (q_7, .inl (cI, 100, .inl (fun _ => (0 : Int32)))), (q_8, .inl (cI, 10, .inl (fun _ => (0 : Int32)))), (q_9, .inl (cI, 10, .inl (fun _ => (0 : Int32)))), (q_10, .inl (cI, 10, .inl (fun _ => (0 : Int32)))), (q_11, .inl (cI, 3, .inl (fun _ => (0 : Int32)))), (q_12, .inl (cI, 40, .inl (fun _ => (0 : Int32)))), (q_13, .inl (cI, 6, .inl (fun _ => (0 : Int32))))] := hD
  refine W.widen (k := 13) (n := 239) (Nat.le_of_ble_eq_true rfl) (Nat.le_of_ble_eq_true rfl) ?_
  refine va_putF (D := D) (ci := 4) (v := .ref q_13) (ty := .array .int) (C := RX4) (T := TX4) (N := 25) hx hb hts iw_X4_init_4 tyX4 tyX4_ok nmX4 hown hK hP hD hS 0 rfl rfl 20 (by decide) (hts _ wd_X4_init_20) (fun _ h9 => h9) rfl hin rfl (by decide +kernel) rfl rfl (Nat.le_of_ble_eq_true rfl) dX4_init_124 (fun H locs hP hD hS => ?_)
  have hP : va_P D vwCl [(y0, .inr (4, [.int 0, .int 0, .int 0, .int 0, .int 100, .int 0, .int 500, .int 300, .ref q_1, .ref q_2, .ref q_3, .ref q_4, .ref q_5, .ref q_6, .ref q_7, .ref q_8, .ref q_9, .ref q_10, .ref q_11, .ref q_12, .ref q_13, .null, .null, .long 0, .long 0])), (q_1, .inl (cI, 10, .inl (fun _ => (0 : Int32)))), (q_2, .inl (cI, 10, .inl (fun _ => (0 : Int32)))), (q_3, .inl (cI, 10, .inl (fun _ => (0 : Int32)))), (q_4, .inl (cI, 10, .inl (fun _ => (0 : Int32)))), (q_5, .inl (cI, 10, .inl (fun _ => (0 : Int32)))), (q_6, .inl (cI, 10, .inl (fun _ => (0 : Int32)))), (q_7, .inl (cI, 100, .inl (fun _ => (0 : Int32)))), (q_8, .inl (cI, 10, .inl (fun _ => (0 : Int32)))), (q_9, .inl (cI, 10, .inl (fun _ => (0 : Int32)))), (q_10, .inl (cI, 10, .inl (fun _ => (0 : Int32)))), (q_11, .inl (cI, 3, .inl (fun _ => (0 : Int32)))), (q_12, .inl (cI, 40, .inl (fun _ => (0 : Int32)))), (q_13, .inl (cI, 6, .inl (fun _ => (0 : Int32))))] H := hP
  have hD : va_D A [(y0, .inr (4, [.int 0, .int 0, .int 0, .int 0, .int 100, .int 0, .int 500, .int 300, .ref q_1, .ref q_2, .ref q_3, .ref q_4, .ref q_5, .ref q_6, .ref q_7, .ref q_8, .ref q_9, .ref q_10, .ref q_11, .ref q_12, .ref q_13, .null, .null, .long 0, .long 0])), (q_1, .inl (cI, 10, .inl (fun _ => (0 : Int32)))), (q_2, .inl (cI, 10, .inl (fun _ => (0 : Int32)))), (q_3, .inl (cI, 10, .inl (fun _ => (0 : Int32)))), (q_4, .inl (cI, 10, .inl (fun _ => (0 : Int32)))), (q_5, .inl (cI, 10, .inl (fun _ => (0 : Int32)))), (q_6, .inl (cI, 10, .inl (fun _ => (0 : Int32)))), (q_7, .inl (cI, 100, .inl (fun _ => (0 : Int32)))), (q_8, .inl (cI, 10, .inl (fun _ => (0 : Int32)))), (q_9, .inl (cI, 10, .inl (fun _ => (0 : Int32)))), (q_10, .inl (cI, 10, .inl (fun _ => (0 : Int32)))), (q_11, .inl (cI, 3, .inl (fun _ => (0 : Int32)))), (q_12, .inl (cI, 40, .inl (fun _ => (0 : Int32)))), (q_13, .inl (cI, 6, .inl (fun _ => (0 : Int32))))] := hD
  refine lv_aload_n hx hb dX4_init_127 rfl (lv_at hl 0 rfl) ?_
  refine lv_bipush (v := 6) hx hb dX4_init_128 (by decide) ?_
  refine va_newa (atype := .int) (a0 := (6, .inl (fun _ => (0 : Int32)))) (N' := 6) hx hb (hts _ wd_X4_init_7) rfl hK hP hD hS hA (fun _ => rfl) (by decide) (by decide) (by decide) (Nat.le_of_ble_eq_true rfl) (Nat.le_of_ble_eq_true rfl) dX4_init_130 (fun q_14 cA H hK hP hD hS => ?_)
  have ecA := (cA_is (t0 := 0) (t1 := 1) hK rfl rfl).symm
  subst ecA
  have hK := hK.sub (tys' := [(cI, .int)]) [0] rfl
  have hP : va_P D vwCl [(y0, .inr (4, [.int 0, .int 0, .int 0, .int 0, .int 100, .int 0, .int 500, .int 300, .ref q_1, .ref q_2, .ref q_3, .ref q_4, .ref q_5, .ref q_6, .ref q_7, .ref q_8, .ref q_9, .ref q_10, .ref q_11, .ref q_12, .ref q_13, .null, .null, .long 0, .long 0])), (q_1, .inl (cI, 10, .inl (fun _ => (0 : Int32)))), (q_2, .inl (cI, 10, .inl (fun _ => (0 : Int32)))), (q_3, .inl (cI, 10, .inl (fun _ => (0 : Int32)))), (q_4, .inl (cI, 10, .inl (fun _ => (0 : Int32)))), (q_5, .inl (cI, 10, .inl (fun _ => (0 : Int32)))), (q_6, .inl (cI, 10, .inl (fun _ => (0 : Int32)))), (q_7, .inl (cI, 100, .inl (fun _ => (0 : Int32)))), (q_8, .inl (cI, 10, .inl (fun _ => (0 : Int32)))), (q_9, .inl (cI, 10, .inl (fun _ => (0 : Int32)))), (q_10, .inl (cI, 10, .inl (fun _ => (0 : Int32)))), (q_11, .inl (cI, 3, .inl (fun _ => (0 : Int32)))), (q_12, .inl (cI, 40, .inl (fun _ => (0 : Int32)))), (q_13, .inl (cI, 6, .inl (fun _ => (0 : Int32)))), (q_14, .inl (cI, 6, .inl (fun _ => (0 : Int32))))] H := hP
  have hD : va_D A [(y0, .inr (4, [.int 0, .int 0, .int 0, .int 0, .int 100, .int 0, .int 500, .int 300, .ref q_1, .ref q_2, .ref q_3, .ref q_4, .ref q_5, .ref q_6, .ref q_7, .ref q_8, .ref q_9, .ref q_10, .ref q_11, .ref q_12, .ref q_13, .null, .null, .long 0, .long 0])), (q_1, .inl (cI, 10, .inl (fun _ => (0 : Int32)))), (q_2, .inl (cI, 10, .inl (fun _ => (0 : Int32)))), (q_3, .inl (cI, 10, .inl (fun _ => (0 : Int32)))), (q_4, .inl (cI, 10, .inl (fun _ => (0 : Int32)))), (q_5, .inl (cI, 10, .inl (fun _ => (0 : Int32)))), (q_6, .inl (cI, 10, .inl (fun _ => (0 : Int32)))), (q_7, .inl (cI, 100, .inl (fun _ => (0 : Int32)))), (q_8, .inl (cI, 10, .inl (fun _ => (0 : Int32)))), (q_9, .inl (cI, 10, .inl (fun _ => (0 : Int32)))), (q_10, .inl (cI, 10, .inl (fun _ => (0 : Int32)))), (q_11, .inl (cI, 3, .inl (fun _ => (0 : Int32)))), (q_12, .inl (cI, 40, .inl (fun _ => (0 : Int32)))), (q_13, .inl (cI, 6, .inl (fun _ => (0 : Int32)))), (q_14, .inl (cI, 6, .inl (fun _ => (0 : Int32))))] := hD
  refine W.widen (k := 14) (n := 245) (Nat.le_of_ble_eq_true rfl) (Nat.le_of_ble_eq_true rfl) ?_
  refine va_putF (D := D) (ci := 4) (v := .ref q_14) (ty := .array .int) (C := RX4) (T := TX4) (N := 25) hx hb hts iw_X4_init_4 tyX4 tyX4_ok nmX4 hown hK hP hD hS 0 rfl rfl 21 (by decide) (hts _ wd_X4_init_21) (fun _ h9 => h9) rfl hin rfl (by decide +kernel) rfl rfl (Nat.le_of_ble_eq_true rfl) dX4_init_132 (fun H locs hP hD hS => ?_)
  have hP : va_P D vwCl [(y0, .inr (4, [.int 0, .int 0, .int 0, .int 0, .int 100, .int 0, .int 500, .int 300, .ref q_1, .ref q_2, .ref q_3, .ref q_4, .ref q_5, .ref q_6, .ref q_7, .ref q_8, .ref q_9, .ref q_10, .ref q_11, .ref q_12, .ref q_13, .ref q_14, .null, .long 0, .long 0])), (q_1, .inl (cI, 10, .inl (fun _ => (0 : Int32)))), (q_2, .inl (cI, 10, .inl (fun _ => (0 : Int32)))), (q_3, .inl (cI, 10, .inl (fun _ => (0 : Int32)))), (q_4, .inl (cI, 10, .inl (fun _ => (0 : Int32)))), (q_5, .inl (cI, 10, .inl (fun _ => (0 : Int32)))), (q_6, .inl (cI, 10, .inl (fun _ => (0 : Int32)))), (q_7, .inl (cI, 100, .inl (fun _ => (0 : Int32)))), (q_8, .inl (cI, 10, .inl (fun _ => (0 : Int32)))), (q_9, .inl (cI, 10, .inl (fun _ => (0 : Int32)))), (q_10, .inl (cI, 10, .inl (fun _ => (0 : Int32)))), (q_11, .inl (cI, 3, .inl (fun _ => (0 : Int32)))), (q_12, .inl (cI, 40, .inl (fun _ => (0 : Int32)))), (q_13, .inl (cI, 6, .inl (fun _ => (0 : Int32)))), (q_14, .inl (cI, 6, .inl (fun _ => (0 : Int32))))] H := hP
  have hD : va_D A [(y0, .inr (4, [.int 0, .int 0, .int 0, .int 0, .int 100, .int 0, .int 500, .int 300, .ref q_1, .ref q_2, .ref q_3, .ref q_4, .ref q_5, .ref q_6, .ref q_7, .ref q_8, .ref q_9, .ref q_10, .ref q_11, .ref q_12, .ref q_13, .ref q_14, .null, .long 0, .long 0])), (q_1, .inl (cI, 10, .inl (fun _ => (0 : Int32)))), (q_2, .inl (cI, 10, .inl (fun _ => (0 : Int32)))), (q_3, .inl (cI, 10, .inl (fun _ => (0 : Int32)))), (q_4, .inl (cI, 10, .inl (fun _ => (0 : Int32)))), (q_5, .inl (cI, 10, .inl (fun _ => (0 : Int32)))), (q_6, .inl (cI, 10, .inl (fun _ => (0 : Int32)))), (q_7, .inl (cI, 100, .inl (fun _ => (0 : Int32)))), (q_8, .inl (cI, 10, .inl (fun _ => (0 : Int32)))), (q_9, .inl (cI, 10, .inl (fun _ => (0 : Int32)))), (q_10, .inl (cI, 10, .inl (fun _ => (0 : Int32)))), (q_11, .inl (cI, 3, .inl (fun _ => (0 : Int32)))), (q_12, .inl (cI, 40, .inl (fun _ => (0 : Int32)))), (q_13, .inl (cI, 6, .inl (fun _ => (0 : Int32)))), (q_14, .inl (cI, 6, .inl (fun _ => (0 : Int32))))] := hD
  refine lv_aload_n hx hb dX4_init_135 rfl (lv_at hl 0 rfl) ?_
  refine lv_bipush (v := 10) hx hb dX4_init_136 (by decide) ?_
  refine va_newa (atype := .int) (a0 := (10, .inl (fun _ => (0 : Int32)))) (N' := 10) hx hb (hts _ wd_X4_init_7) rfl hK hP hD hS hA (fun _ => rfl) (by decide) (by decide) (by decide) (Nat.le_of_ble_eq_true rfl) (Nat.le_of_ble_eq_true rfl) dX4_init_138 (fun q_15 cA H hK hP hD hS => ?_)
  have ecA := (cA_is (t0 := 0) (t1 := 1) hK rfl rfl).symm
  subst ecA
  have hK := hK.sub (tys' := [(cI, .int)]) [0] rfl
  have hP : va_P D vwCl [(y0, .inr (4, [.int 0, .int 0, .int 0, .int 0, .int 100, .int 0, .int 500, .int 300, .ref q_1, .ref q_2, .ref q_3, .ref q_4, .ref q_5, .ref q_6, .ref q_7, .ref q_8, .ref q_9, .ref q_10, .ref q_11, .ref q_12, .ref q_13, .ref q_14, .null, .long 0, .long 0])), (q_1, .inl (cI, 10, .inl (fun _ => (0 : Int32)))), (q_2, .inl (cI, 10, .inl (fun _ => (0 : Int32)))), (q_3, .inl (cI, 10, .inl (fun _ => (0 : Int32)))), (q_4, .inl (cI, 10, .inl (fun _ => (0 : Int32)))), (q_5, .inl (cI, 10, .inl (fun _ => (0 : Int32)))), (q_6, .inl (cI, 10, .inl (fun _ => (0 : Int32)))), (q_7, .inl (cI, 100, .inl (fun _ => (0 : Int32)))), (q_8, .inl (cI, 10, .inl (fun _ => (0 : Int32)))), (q_9, .inl (cI, 10, .inl (fun _ => (0 : Int32)))), (q_10, .inl (cI, 10, .inl (fun _ => (0 : Int32)))), (q_11, .inl (cI, 3, .inl (fun _ => (0 : Int32)))), (q_12, .inl (cI, 40, .inl (fun _ => (0 : Int32)))), (q_13, .inl (cI, 6, .inl (fun _ => (0 : Int32)))), (q_14, .inl (cI, 6, .inl (fun _ => (0 : Int32)))), (q_15, .inl (cI, 10, .inl (fun _ => (0 : Int32))))] H := hP
  have hD : va_D A [(y0, .inr (4, [.int 0, .int 0, .int 0, .int 0, .int 100, .int 0, .int 500, .int 300, .ref q_1, .ref q_2, .ref q_3, .ref q_4, .ref q_5, .ref q_6, .ref q_7, .ref q_8, .ref q_9, .ref q_10, .ref q_11, .ref q_12, .ref q_13, .ref q_14, .null, .long 0, .long 0])), (q_1, .inl (cI, 10, .inl (fun _ => (0 : Int32)))), (q_2, .inl (cI, 10, .inl (fun _ => (0 : Int32)))), (q_3, .inl (cI, 10, .inl (fun _ => (0 : Int32)))), (q_4, .inl (cI, 10, .inl (fun _ => (0 : Int32)))), (q_5, .inl (cI, 10, .inl (fun _ => (0 : Int32)))), (q_6, .inl (cI, 10, .inl (fun _ => (0 : Int32)))), (q_7, .inl (cI, 100, .inl (fun _ => (0 : Int32)))), (q_8, .inl (cI, 10, .inl (fun _ => (0 : Int32)))), (q_9, .inl (cI, 10, .inl (fun _ => (0 : Int32)))), (q_10, .inl (cI, 10, .inl (fun _ => (0 : Int32)))), (q_11, .inl (cI, 3, .inl (fun _ => (0 : Int32)))), (q_12, .inl (cI, 40, .inl (fun _ => (0 : Int32)))), (q_13, .inl (cI, 6, .inl (fun _ => (0 : Int32)))), (q_14, .inl (cI, 6, .inl (fun _ => (0 : Int32)))), (q_15, .inl (cI, 10, .inl (fun _ => (0 : Int32))))] := hD
  refine W.widen (k := 15) (n := 255) (Nat.le_of_ble_eq_true rfl) (Nat.le_of_ble_eq_true rfl) ?_
  refine va_putF (D := D) (ci := 4) (v := .ref q_15) (ty := .array .int) (C := RX4) (T := TX4) (N := 25) hx hb hts iw_X4_init_4 tyX4 tyX4_ok nmX4 hown hK hP hD hS 0 rfl rfl 22 (by decide) (hts _ wd_X4_init_22) (fun _ h9 => h9) rfl hin rfl (by decide +kernel) rfl rfl (Nat.le_of_ble_eq_true rfl) dX4_init_140 (fun H locs hP hD hS => ?_)
  have hP : va_P D vwCl [(y0, .inr (4, [.int 0, .int 0, .int 0, .int 0, .int 100, .int 0, .int 500, .int 300, .ref q_1, .ref q_2, .ref q_3, .ref q_4, .ref q_5, .ref q_6, .ref q_7, .ref q_8, .ref q_9, .ref q_10, .ref q_11, .ref q_12, .ref q_13, .ref q_14, .ref q_15, .long 0, .long 0])), (q_1, .inl (cI, 10, .inl (fun _ => (0 : Int32)))), (q_2, .inl (cI, 10, .inl (fun _ => (0 : Int32)))), (q_3, .inl (cI, 10, .inl (fun _ => (0 : Int32)))), (q_4, .inl (cI, 10, .inl (fun _ => (0 : Int32)))), (q_5, .inl (cI, 10, .inl (fun _ => (0 : Int32)))), (q_6, .inl (cI, 10, .inl (fun _ => (0 : Int32)))), (q_7, .inl (cI, 100, .inl (fun _ => (0 : Int32)))), (q_8, .inl (cI, 10, .inl (fun _ => (0 : Int32)))), (q_9, .inl (cI, 10, .inl (fun _ => (0 : Int32)))), (q_10, .inl (cI, 10, .inl (fun _ => (0 : Int32)))), (q_11, .inl (cI, 3, .inl (fun _ => (0 : Int32)))), (q_12, .inl (cI, 40, .inl (fun _ => (0 : Int32)))), (q_13, .inl (cI, 6, .inl (fun _ => (0 : Int32)))), (q_14, .inl (cI, 6, .inl (fun _ => (0 : Int32)))), (q_15, .inl (cI, 10, .inl (fun _ => (0 : Int32))))] H := hP
  have hD : va_D A [(y0, .inr (4, [.int 0, .int 0, .int 0, .int 0, .int 100, .int 0, .int 500, .int 300, .ref q_1, .ref q_2, .ref q_3, .ref q_4, .ref q_5, .ref q_6, .ref q_7, .ref q_8, .ref q_9, .ref q_10, .ref q_11, .ref q_12, .ref q_13, .ref q_14, .ref q_15, .long 0, .long 0])), (q_1, .inl (cI, 10, .inl (fun _ => (0 : Int32)))), (q_2, .inl (cI, 10, .inl (fun _ => (0 : Int32)))), (q_3, .inl (cI, 10, .inl (fun _ => (0 : Int32)))), (q_4, .inl (cI, 10, .inl (fun _ => (0 : Int32)))), (q_5, .inl (cI, 10, .inl (fun _ => (0 : Int32)))), (q_6, .inl (cI, 10, .inl (fun _ => (0 : Int32)))), (q_7, .inl (cI, 100, .inl (fun _ => (0 : Int32)))), (q_8, .inl (cI, 10, .inl (fun _ => (0 : Int32)))), (q_9, .inl (cI, 10, .inl (fun _ => (0 : Int32)))), (q_10, .inl (cI, 10, .inl (fun _ => (0 : Int32)))), (q_11, .inl (cI, 3, .inl (fun _ => (0 : Int32)))), (q_12, .inl (cI, 40, .inl (fun _ => (0 : Int32)))), (q_13, .inl (cI, 6, .inl (fun _ => (0 : Int32)))), (q_14, .inl (cI, 6, .inl (fun _ => (0 : Int32)))), (q_15, .inl (cI, 10, .inl (fun _ => (0 : Int32))))] := hD
  refine lv_iconst (v := 0) hx hb dX4_init_143 (by decide) ?_
  refine lv_istore_n (lv' := [(1, .int 0), (0, .ref y0)]) hx hb dX4_init_144 rfl hl (by decide) rfl (fun ls hl => ?_)
  have lp_145 : ∀ (n : Nat) (i1 : Nat) (k1 : Int32) (f1 : Nat → Int32) (H : Heap) (locs : List Loc) (ls : Array Slot), 40 - i1 < n → (k1 = nI i1) → (i1 ≤ 40) → (∀ j, j < i1 → f1 j = 20) → va_P D vwCl [(y0, .inr (4, [.int 0, .int 0, .int 0, .int 0, .int 100, .int 0, .int 500, .int 300, .ref q_1, .ref q_2, .ref q_3, .ref q_4, .ref q_5, .ref q_6, .ref q_7, .ref q_8, .ref q_9, .ref q_10, .ref q_11, .ref q_12, .ref q_13, .ref q_14, .ref q_15, .long 0, .long 0])), (q_1, .inl (cI, 10, .inl (fun _ => (0 : Int32)))), (q_2, .inl (cI, 10, .inl (fun _ => (0 : Int32)))), (q_3, .inl (cI, 10, .inl (fun _ => (0 : Int32)))), (q_4, .inl (cI, 10, .inl (fun _ => (0 : Int32)))), (q_5, .inl (cI, 10, .inl (fun _ => (0 : Int32)))), (q_6, .inl (cI, 10, .inl (fun _ => (0 : Int32)))), (q_7, .inl (cI, 100, .inl (fun _ => (0 : Int32)))), (q_8, .inl (cI, 10, .inl (fun _ => (0 : Int32)))), (q_9, .inl (cI, 10, .inl (fun _ => (0 : Int32)))), (q_10, .inl (cI, 10, .inl (fun _ => (0 : Int32)))), (q_11, .inl (cI, 3, .inl (fun _ => (0 : Int32)))), (q_12, .inl (cI, 40, .inl f1)), (q_13, .inl (cI, 6, .inl (fun _ => (0 : Int32)))), (q_14, .inl (cI, 6, .inl (fun _ => (0 : Int32)))), (q_15, .inl (cI, 10, .inl (fun _ => (0 : Int32))))] H → va_D A [(y0, .inr (4, [.int 0, .int 0, .int 0, .int 0, .int 100, .int 0, .int 500, .int 300, .ref q_1, .ref q_2, .ref q_3, .ref q_4, .ref q_5, .ref q_6, .ref q_7, .ref q_8, .ref q_9, .ref q_10, .ref q_11, .ref q_12, .ref q_13, .ref q_14, .ref q_15, .long 0, .long 0])), (q_1, .inl (cI, 10, .inl (fun _ => (0 : Int32)))), (q_2, .inl (cI, 10, .inl (fun _ => (0 : Int32)))), (q_3, .inl (cI, 10, .inl (fun _ => (0 : Int32)))), (q_4, .inl (cI, 10, .inl (fun _ => (0 : Int32)))), (q_5, .inl (cI, 10, .inl (fun _ => (0 : Int32)))), (q_6, .inl (cI, 10, .inl (fun _ => (0 : Int32)))), (q_7, .inl (cI, 100, .inl (fun _ => (0 : Int32)))), (q_8, .inl (cI, 10, .inl (fun _ => (0 : Int32)))), (q_9, .inl (cI, 10, .inl (fun _ => (0 : Int32)))), (q_10, .inl (cI, 10, .inl (fun _ => (0 : Int32)))), (q_11, .inl (cI, 3, .inl (fun _ => (0 : Int32)))), (q_12, .inl (cI, 40, .inl f1)), (q_13, .inl (cI, 6, .inl (fun _ => (0 : Int32)))), (q_14, .inl (cI, 6, .inl (fun _ => (0 : Int32)))), (q_15, .inl (cI, 10, .inl (fun _ => (0 : Int32))))] → va_S A s.heap H locs → lv_has ls 2 [(0, .ref y0), (1, .int k1)] → GW H locs 15 255 (F0 m 145 ls []) := by
    intro n_145
    induction n_145 with
    | zero => intro i1 k1 f1 H locs ls hn_145; exact absurd hn_145 (Nat.not_lt_zero _)
    | succ n_145 ih_145 =>
      intro i1 k1 f1 H locs ls hn_145 ek1 hk1 wk1 hP hD hS hl
      refine hIn _ _ _ _ _ ?_
      refine lv_iload_n hx hb dX4_init_145 rfl (lv_at hl 1 rfl) ?_
      refine lv_bipush (v := 40) hx hb dX4_init_146 (by decide) ?_
      refine lv_icmp_ge (tgt := 165) hx hb dX4_init_148 (by decide) (fun c_16 => ?_) (fun c_16 => ?_)
      · refine lv_iconst (v := 0) hx hb dX4_init_165 (by decide) ?_
        refine lv_istore_n (lv' := [(1, .int 0), (0, .ref y0)]) hx hb dX4_init_166 rfl hl (by decide) rfl (fun ls hl => ?_)
        have lp_167 : ∀ (n : Nat) (i2 : Nat) (k2 : Int32) (f2 : Nat → Int32) (H : Heap) (locs : List Loc) (ls : Array Slot), 3 - i2 < n → (k2 = nI i2) → (i2 ≤ 3) → (∀ j, j < i2 → f2 j = 10) → va_P D vwCl [(y0, .inr (4, [.int 0, .int 0, .int 0, .int 0, .int 100, .int 0, .int 500, .int 300, .ref q_1, .ref q_2, .ref q_3, .ref q_4, .ref q_5, .ref q_6, .ref q_7, .ref q_8, .ref q_9, .ref q_10, .ref q_11, .ref q_12, .ref q_13, .ref q_14, .ref q_15, .long 0, .long 0])), (q_1, .inl (cI, 10, .inl (fun _ => (0 : Int32)))), (q_2, .inl (cI, 10, .inl (fun _ => (0 : Int32)))), (q_3, .inl (cI, 10, .inl (fun _ => (0 : Int32)))), (q_4, .inl (cI, 10, .inl (fun _ => (0 : Int32)))), (q_5, .inl (cI, 10, .inl (fun _ => (0 : Int32)))), (q_6, .inl (cI, 10, .inl (fun _ => (0 : Int32)))), (q_7, .inl (cI, 100, .inl (fun _ => (0 : Int32)))), (q_8, .inl (cI, 10, .inl (fun _ => (0 : Int32)))), (q_9, .inl (cI, 10, .inl (fun _ => (0 : Int32)))), (q_10, .inl (cI, 10, .inl (fun _ => (0 : Int32)))), (q_11, .inl (cI, 3, .inl f2)), (q_12, .inl (cI, 40, .inl f1)), (q_13, .inl (cI, 6, .inl (fun _ => (0 : Int32)))), (q_14, .inl (cI, 6, .inl (fun _ => (0 : Int32)))), (q_15, .inl (cI, 10, .inl (fun _ => (0 : Int32))))] H → va_D A [(y0, .inr (4, [.int 0, .int 0, .int 0, .int 0, .int 100, .int 0, .int 500, .int 300, .ref q_1, .ref q_2, .ref q_3, .ref q_4, .ref q_5, .ref q_6, .ref q_7, .ref q_8, .ref q_9, .ref q_10, .ref q_11, .ref q_12, .ref q_13, .ref q_14, .ref q_15, .long 0, .long 0])), (q_1, .inl (cI, 10, .inl (fun _ => (0 : Int32)))), (q_2, .inl (cI, 10, .inl (fun _ => (0 : Int32)))), (q_3, .inl (cI, 10, .inl (fun _ => (0 : Int32)))), (q_4, .inl (cI, 10, .inl (fun _ => (0 : Int32)))), (q_5, .inl (cI, 10, .inl (fun _ => (0 : Int32)))), (q_6, .inl (cI, 10, .inl (fun _ => (0 : Int32)))), (q_7, .inl (cI, 100, .inl (fun _ => (0 : Int32)))), (q_8, .inl (cI, 10, .inl (fun _ => (0 : Int32)))), (q_9, .inl (cI, 10, .inl (fun _ => (0 : Int32)))), (q_10, .inl (cI, 10, .inl (fun _ => (0 : Int32)))), (q_11, .inl (cI, 3, .inl f2)), (q_12, .inl (cI, 40, .inl f1)), (q_13, .inl (cI, 6, .inl (fun _ => (0 : Int32)))), (q_14, .inl (cI, 6, .inl (fun _ => (0 : Int32)))), (q_15, .inl (cI, 10, .inl (fun _ => (0 : Int32))))] → va_S A s.heap H locs → lv_has ls 2 [(0, .ref y0), (1, .int k2)] → GW H locs 15 255 (F0 m 167 ls []) := by
          intro n_167
          induction n_167 with
          | zero => intro i2 k2 f2 H locs ls hn_167; exact absurd hn_167 (Nat.not_lt_zero _)
          | succ n_167 ih_167 =>
            intro i2 k2 f2 H locs ls hn_167 ek2 hk2 wk2 hP hD hS hl
            refine hIn _ _ _ _ _ ?_
            refine lv_iload_n hx hb dX4_init_167 rfl (lv_at hl 1 rfl) ?_
            refine lv_iconst (v := 3) hx hb dX4_init_168 (by decide) ?_
            refine lv_icmp_ge (tgt := 186) hx hb dX4_init_169 (by decide) (fun c_17 => ?_) (fun c_17 => ?_)
            · refine lv_iconst (v := 0) hx hb dX4_init_186 (by decide) ?_
              refine lv_istore_n (lv' := [(1, .int 0), (0, .ref y0)]) hx hb dX4_init_187 rfl hl (by decide) rfl (fun ls hl => ?_)
              have lp_188 : ∀ (n : Nat) (i3 : Nat) (k3 : Int32) (f3 : Nat → Int32) (H : Heap) (locs : List Loc) (ls : Array Slot), 100 - i3 < n → (k3 = nI i3) → (i3 ≤ 100) → (∀ j, j < i3 → f3 j = (-1)) → va_P D vwCl [(y0, .inr (4, [.int 0, .int 0, .int 0, .int 0, .int 100, .int 0, .int 500, .int 300, .ref q_1, .ref q_2, .ref q_3, .ref q_4, .ref q_5, .ref q_6, .ref q_7, .ref q_8, .ref q_9, .ref q_10, .ref q_11, .ref q_12, .ref q_13, .ref q_14, .ref q_15, .long 0, .long 0])), (q_1, .inl (cI, 10, .inl (fun _ => (0 : Int32)))), (q_2, .inl (cI, 10, .inl (fun _ => (0 : Int32)))), (q_3, .inl (cI, 10, .inl (fun _ => (0 : Int32)))), (q_4, .inl (cI, 10, .inl (fun _ => (0 : Int32)))), (q_5, .inl (cI, 10, .inl (fun _ => (0 : Int32)))), (q_6, .inl (cI, 10, .inl (fun _ => (0 : Int32)))), (q_7, .inl (cI, 100, .inl f3)), (q_8, .inl (cI, 10, .inl (fun _ => (0 : Int32)))), (q_9, .inl (cI, 10, .inl (fun _ => (0 : Int32)))), (q_10, .inl (cI, 10, .inl (fun _ => (0 : Int32)))), (q_11, .inl (cI, 3, .inl f2)), (q_12, .inl (cI, 40, .inl f1)), (q_13, .inl (cI, 6, .inl (fun _ => (0 : Int32)))), (q_14, .inl (cI, 6, .inl (fun _ => (0 : Int32)))), (q_15, .inl (cI, 10, .inl (fun _ => (0 : Int32))))] H → va_D A [(y0, .inr (4, [.int 0, .int 0, .int 0, .int 0, .int 100, .int 0, .int 500, .int 300, .ref q_1, .ref q_2, .ref q_3, .ref q_4, .ref q_5, .ref q_6, .ref q_7, .ref q_8, .ref q_9, .ref q_10, .ref q_11, .ref q_12, .ref q_13, .ref q_14, .ref q_15, .long 0, .long 0])), (q_1, .inl (cI, 10, .inl (fun _ => (0 : Int32)))), (q_2, .inl (cI, 10, .inl (fun _ => (0 : Int32)))), (q_3, .inl (cI, 10, .inl (fun _ => (0 : Int32)))), (q_4, .inl (cI, 10, .inl (fun _ => (0 : Int32)))), (q_5, .inl (cI, 10, .inl (fun _ => (0 : Int32)))), (q_6, .inl (cI, 10, .inl (fun _ => (0 : Int32)))), (q_7, .inl (cI, 100, .inl f3)), (q_8, .inl (cI, 10, .inl (fun _ => (0 : Int32)))), (q_9, .inl (cI, 10, .inl (fun _ => (0 : Int32)))), (q_10, .inl (cI, 10, .inl (fun _ => (0 : Int32)))), (q_11, .inl (cI, 3, .inl f2)), (q_12, .inl (cI, 40, .inl f1)), (q_13, .inl (cI, 6, .inl (fun _ => (0 : Int32)))), (q_14, .inl (cI, 6, .inl (fun _ => (0 : Int32)))), (q_15, .inl (cI, 10, .inl (fun _ => (0 : Int32))))] → va_S A s.heap H locs → lv_has ls 2 [(0, .ref y0), (1, .int k3)] → GW H locs 15 255 (F0 m 188 ls []) := by
                intro n_188
                induction n_188 with
                | zero => intro i3 k3 f3 H locs ls hn_188; exact absurd hn_188 (Nat.not_lt_zero _)
                | succ n_188 ih_188 =>
                  intro i3 k3 f3 H locs ls hn_188 ek3 hk3 wk3 hP hD hS hl
                  refine hIn _ _ _ _ _ ?_
                  refine lv_iload_n hx hb dX4_init_188 rfl (lv_at hl 1 rfl) ?_
                  refine lv_bipush (v := 100) hx hb dX4_init_189 (by decide) ?_
                  refine lv_icmp_ge (tgt := 207) hx hb dX4_init_191 (by decide) (fun c_18 => ?_) (fun c_18 => ?_)
                  · refine W.widen (k := 15) (n := 255) (Nat.le_of_ble_eq_true rfl) (Nat.le_of_ble_eq_true rfl) ?_
                    exact fi_v (q_1, q_2, q_3, q_4, q_5, q_6, q_7, q_8, q_9, q_10, q_11, q_12, q_13, q_14, q_15, fun _ => (0 : Int32), fun _ => (0 : Int32), fun _ => (0 : Int32), fun _ => (0 : Int32), fun _ => (0 : Int32), fun _ => (0 : Int32), f3, fun _ => (0 : Int32), fun _ => (0 : Int32), fun _ => (0 : Int32), f2, f1, fun _ => (0 : Int32), fun _ => (0 : Int32), fun _ => (0 : Int32)) hx hb hr hlocks hK (hP.sub [0, 1, 2, 3, 4, 5, 6, 7, 8, 9, 10, 11, 12, 13, 14, 15] rfl) (hD.sub [0, 1, 2, 3, 4, 5, 6, 7, 8, 9, 10, 11, 12, 13, 14, 15] (by decide) rfl) hS ⟨(pf_X4_init_1 n_145 i1 k1 f1 n_167 i2 k2 f2 n_188 i3 k3 f3 hn_145 ek1 hk1 wk1 c_16 hn_167 ek2 hk2 wk2 c_17 hn_188 ek3 hk3 wk3 c_18), (pf_X4_init_2 n_145 i1 k1 f1 n_167 i2 k2 f2 n_188 i3 k3 f3 hn_145 ek1 hk1 wk1 c_16 hn_167 ek2 hk2 wk2 c_17 hn_188 ek3 hk3 wk3 c_18)⟩ dX4_init_207
                  · refine lv_aload_n hx hb dX4_init_194 rfl (lv_at hl 0 rfl) ?_
                    refine va_get (D := D) (ci := 4) (v := .ref q_7) (C := RX4) (T := TX4) (N := 25) hx hb hts iw_X4_init_4 hown hK hP 0 rfl rfl 14 (by decide) (hts _ wd_X4_init_14) (fun _ h9 => h9) rfl dX4_init_195 ?_
                    refine lv_iload_n hx hb dX4_init_198 rfl (lv_at hl 1 rfl) ?_
                    refine lv_iconst (v := (-1)) hx hb dX4_init_199 (by decide) ?_
                    refine va_iast hx hb hK hP hD hS 7 0 rfl rfl (pf_X4_init_3 n_145 i1 k1 f1 n_167 i2 k2 f2 n_188 i3 k3 f3 hn_145 ek1 hk1 wk1 c_16 hn_167 ek2 hk2 wk2 c_17 hn_188 ek3 hk3 wk3 c_18) dX4_init_200 (fun H locs hP hD hS => ?_)
                    have hP : va_P D vwCl [(y0, .inr (4, [.int 0, .int 0, .int 0, .int 0, .int 100, .int 0, .int 500, .int 300, .ref q_1, .ref q_2, .ref q_3, .ref q_4, .ref q_5, .ref q_6, .ref q_7, .ref q_8, .ref q_9, .ref q_10, .ref q_11, .ref q_12, .ref q_13, .ref q_14, .ref q_15, .long 0, .long 0])), (q_1, .inl (cI, 10, .inl (fun _ => (0 : Int32)))), (q_2, .inl (cI, 10, .inl (fun _ => (0 : Int32)))), (q_3, .inl (cI, 10, .inl (fun _ => (0 : Int32)))), (q_4, .inl (cI, 10, .inl (fun _ => (0 : Int32)))), (q_5, .inl (cI, 10, .inl (fun _ => (0 : Int32)))), (q_6, .inl (cI, 10, .inl (fun _ => (0 : Int32)))), (q_7, .inl (cI, 100, .inl (upd f3 k3.toNatClampNeg (-1)))), (q_8, .inl (cI, 10, .inl (fun _ => (0 : Int32)))), (q_9, .inl (cI, 10, .inl (fun _ => (0 : Int32)))), (q_10, .inl (cI, 10, .inl (fun _ => (0 : Int32)))), (q_11, .inl (cI, 3, .inl f2)), (q_12, .inl (cI, 40, .inl f1)), (q_13, .inl (cI, 6, .inl (fun _ => (0 : Int32)))), (q_14, .inl (cI, 6, .inl (fun _ => (0 : Int32)))), (q_15, .inl (cI, 10, .inl (fun _ => (0 : Int32))))] H := hP
                    have hD : va_D A [(y0, .inr (4, [.int 0, .int 0, .int 0, .int 0, .int 100, .int 0, .int 500, .int 300, .ref q_1, .ref q_2, .ref q_3, .ref q_4, .ref q_5, .ref q_6, .ref q_7, .ref q_8, .ref q_9, .ref q_10, .ref q_11, .ref q_12, .ref q_13, .ref q_14, .ref q_15, .long 0, .long 0])), (q_1, .inl (cI, 10, .inl (fun _ => (0 : Int32)))), (q_2, .inl (cI, 10, .inl (fun _ => (0 : Int32)))), (q_3, .inl (cI, 10, .inl (fun _ => (0 : Int32)))), (q_4, .inl (cI, 10, .inl (fun _ => (0 : Int32)))), (q_5, .inl (cI, 10, .inl (fun _ => (0 : Int32)))), (q_6, .inl (cI, 10, .inl (fun _ => (0 : Int32)))), (q_7, .inl (cI, 100, .inl (upd f3 k3.toNatClampNeg (-1)))), (q_8, .inl (cI, 10, .inl (fun _ => (0 : Int32)))), (q_9, .inl (cI, 10, .inl (fun _ => (0 : Int32)))), (q_10, .inl (cI, 10, .inl (fun _ => (0 : Int32)))), (q_11, .inl (cI, 3, .inl f2)), (q_12, .inl (cI, 40, .inl f1)), (q_13, .inl (cI, 6, .inl (fun _ => (0 : Int32)))), (q_14, .inl (cI, 6, .inl (fun _ => (0 : Int32)))), (q_15, .inl (cI, 10, .inl (fun _ => (0 : Int32))))] := hD
                    obtain ⟨v_19, ev_19⟩ : ∃ y : Int32, y = k3 + 1 := ⟨_, rfl⟩
                    refine lv_iinc (v := v_19) (lv' := [(1, .int v_19), (0, .ref y0)]) hx hb dX4_init_201 hl (k := 1) rfl (by rw [ev_19]; rfl) (by decide) rfl (fun ls hl => ?_)
                    refine lv_goto (tgt := 188) hx hb dX4_init_204 (by decide) ?_
                    exact hOut _ _ _ _ _ (ih_188 (i3 + 1) v_19 (upd f3 k3.toNatClampNeg (-1)) _ _ _ (pf_X4_init_4 n_145 i1 k1 f1 n_167 i2 k2 f2 n_188 i3 k3 f3 v_19 hn_145 ek1 hk1 wk1 c_16 hn_167 ek2 hk2 wk2 c_17 hn_188 ek3 hk3 wk3 c_18 ev_19) (pf_X4_init_5 n_145 i1 k1 f1 n_167 i2 k2 f2 n_188 i3 k3 f3 v_19 hn_145 ek1 hk1 wk1 c_16 hn_167 ek2 hk2 wk2 c_17 hn_188 ek3 hk3 wk3 c_18 ev_19) (pf_X4_init_6 n_145 i1 k1 f1 n_167 i2 k2 f2 n_188 i3 k3 f3 v_19 hn_145 ek1 hk1 wk1 c_16 hn_167 ek2 hk2 wk2 c_17 hn_188 ek3 hk3 wk3 c_18 ev_19) (pf_X4_init_7 n_145 i1 k1 f1 n_167 i2 k2 f2 n_188 i3 k3 f3 v_19 hn_145 ek1 hk1 wk1 c_16 hn_167 ek2 hk2 wk2 c_17 hn_188 ek3 hk3 wk3 c_18 ev_19) (hP.sub [0, 1, 2, 3, 4, 5, 6, 7, 8, 9, 10, 11, 12, 13, 14, 15] rfl) (hD.sub [0, 1, 2, 3, 4, 5, 6, 7, 8, 9, 10, 11, 12, 13, 14, 15] (by decide) rfl) hS (lv_sub hl [1, 0] rfl))
              exact hOut _ _ _ _ _ (lp_188 (100 - 0 + 1) 0 0 (fun _ => (0 : Int32)) _ _ _ (Nat.lt_succ_self _) (pf_X4_init_8 n_145 i1 k1 f1 n_167 i2 k2 f2 hn_145 ek1 hk1 wk1 c_16 hn_167 ek2 hk2 wk2 c_17) (pf_X4_init_9 n_145 i1 k1 f1 n_167 i2 k2 f2 hn_145 ek1 hk1 wk1 c_16 hn_167 ek2 hk2 wk2 c_17) (pf_X4_init_10 n_145 i1 k1 f1 n_167 i2 k2 f2 hn_145 ek1 hk1 wk1 c_16 hn_167 ek2 hk2 wk2 c_17) (hP.sub [0, 1, 2, 3, 4, 5, 6, 7, 8, 9, 10, 11, 12, 13, 14, 15] rfl) (hD.sub [0, 1, 2, 3, 4, 5, 6, 7, 8, 9, 10, 11, 12, 13, 14, 15] (by decide) rfl) hS (lv_sub hl [1, 0] rfl))
            · refine lv_aload_n hx hb dX4_init_172 rfl (lv_at hl 0 rfl) ?_
              refine va_get (D := D) (ci := 4) (v := .ref q_11) (C := RX4) (T := TX4) (N := 25) hx hb hts iw_X4_init_4 hown hK hP 0 rfl rfl 18 (by decide) (hts _ wd_X4_init_18) (fun _ h9 => h9) rfl dX4_init_173 ?_
              refine lv_iload_n hx hb dX4_init_176 rfl (lv_at hl 1 rfl) ?_
              refine lv_bipush (v := 10) hx hb dX4_init_177 (by decide) ?_
              refine va_iast hx hb hK hP hD hS 11 0 rfl rfl (pf_X4_init_11 n_145 i1 k1 f1 n_167 i2 k2 f2 hn_145 ek1 hk1 wk1 c_16 hn_167 ek2 hk2 wk2 c_17) dX4_init_179 (fun H locs hP hD hS => ?_)
              have hP : va_P D vwCl [(y0, .inr (4, [.int 0, .int 0, .int 0, .int 0, .int 100, .int 0, .int 500, .int 300, .ref q_1, .ref q_2, .ref q_3, .ref q_4, .ref q_5, .ref q_6, .ref q_7, .ref q_8, .ref q_9, .ref q_10, .ref q_11, .ref q_12, .ref q_13, .ref q_14, .ref q_15, .long 0, .long 0])), (q_1, .inl (cI, 10, .inl (fun _ => (0 : Int32)))), (q_2, .inl (cI, 10, .inl (fun _ => (0 : Int32)))), (q_3, .inl (cI, 10, .inl (fun _ => (0 : Int32)))), (q_4, .inl (cI, 10, .inl (fun _ => (0 : Int32)))), (q_5, .inl (cI, 10, .inl (fun _ => (0 : Int32)))), (q_6, .inl (cI, 10, .inl (fun _ => (0 : Int32)))), (q_7, .inl (cI, 100, .inl (fun _ => (0 : Int32)))), (q_8, .inl (cI, 10, .inl (fun _ => (0 : Int32)))), (q_9, .inl (cI, 10, .inl (fun _ => (0 : Int32)))), (q_10, .inl (cI, 10, .inl (fun _ => (0 : Int32)))), (q_11, .inl (cI, 3, .inl (upd f2 k2.toNatClampNeg 10))), (q_12, .inl (cI, 40, .inl f1)), (q_13, .inl (cI, 6, .inl (fun _ => (0 : Int32)))), (q_14, .inl (cI, 6, .inl (fun _ => (0 : Int32)))), (q_15, .inl (cI, 10, .inl (fun _ => (0 : Int32))))] H := hP
              have hD : va_D A [(y0, .inr (4, [.int 0, .int 0, .int 0, .int 0, .int 100, .int 0, .int 500, .int 300, .ref q_1, .ref q_2, .ref q_3, .ref q_4, .ref q_5, .ref q_6, .ref q_7, .ref q_8, .ref q_9, .ref q_10, .ref q_11, .ref q_12, .ref q_13, .ref q_14, .ref q_15, .long 0, .long 0])), (q_1, .inl (cI, 10, .inl (fun _ => (0 : Int32)))), (q_2, .inl (cI, 10, .inl (fun _ => (0 : Int32)))), (q_3, .inl (cI, 10, .inl (fun _ => (0 : Int32)))), (q_4, .inl (cI, 10, .inl (fun _ => (0 : Int32)))), (q_5, .inl (cI, 10, .inl (fun _ => (0 : Int32)))), (q_6, .inl (cI, 10, .inl (fun _ => (0 : Int32)))), (q_7, .inl (cI, 100, .inl (fun _ => (0 : Int32)))), (q_8, .inl (cI, 10, .inl (fun _ => (0 : Int32)))), (q_9, .inl (cI, 10, .inl (fun _ => (0 : Int32)))), (q_10, .inl (cI, 10, .inl (fun _ => (0 : Int32)))), (q_11, .inl (cI, 3, .inl (upd f2 k2.toNatClampNeg 10))), (q_12, .inl (cI, 40, .inl f1)), (q_13, .inl (cI, 6, .inl (fun _ => (0 : Int32)))), (q_14, .inl (cI, 6, .inl (fun _ => (0 : Int32)))), (q_15, .inl (cI, 10, .inl (fun _ => (0 : Int32))))] := hD
              obtain ⟨v_20, ev_20⟩ : ∃ y : Int32, y = k2 + 1 := ⟨_, rfl⟩
              refine lv_iinc (v := v_20) (lv' := [(1, .int v_20), (0, .ref y0)]) hx hb dX4_init_180 hl (k := 1) rfl (by rw [ev_20]; rfl) (by decide) rfl (fun ls hl => ?_)
              refine lv_goto (tgt := 167) hx hb dX4_init_183 (by decide) ?_
              exact hOut _ _ _ _ _ (ih_167 (i2 + 1) v_20 (upd f2 k2.toNatClampNeg 10) _ _ _ (pf_X4_init_12 n_145 i1 k1 f1 n_167 i2 k2 f2 v_20 hn_145 ek1 hk1 wk1 c_16 hn_167 ek2 hk2 wk2 c_17 ev_20) (pf_X4_init_13 n_145 i1 k1 f1 n_167 i2 k2 f2 v_20 hn_145 ek1 hk1 wk1 c_16 hn_167 ek2 hk2 wk2 c_17 ev_20) (pf_X4_init_14 n_145 i1 k1 f1 n_167 i2 k2 f2 v_20 hn_145 ek1 hk1 wk1 c_16 hn_167 ek2 hk2 wk2 c_17 ev_20) (pf_X4_init_15 n_145 i1 k1 f1 n_167 i2 k2 f2 v_20 hn_145 ek1 hk1 wk1 c_16 hn_167 ek2 hk2 wk2 c_17 ev_20) (hP.sub [0, 1, 2, 3, 4, 5, 6, 7, 8, 9, 10, 11, 12, 13, 14, 15] rfl) (hD.sub [0, 1, 2, 3, 4, 5, 6, 7, 8, 9, 10, 11, 12, 13, 14, 15] (by decide) rfl) hS (lv_sub hl [1, 0] rfl))
        exact hOut _ _ _ _ _ (lp_167 (3 - 0 + 1) 0 0 (fun _ => (0 : Int32)) _ _ _ (Nat.lt_succ_self _) (pf_X4_init_16 n_145 i1 k1 f1 hn_145 ek1 hk1 wk1 c_16) (pf_X4_init_17 n_145 i1 k1 f1 hn_145 ek1 hk1 wk1 c_16) (pf_X4_init_18 n_145 i1 k1 f1 hn_145 ek1 hk1 wk1 c_16) (hP.sub [0, 1, 2, 3, 4, 5, 6, 7, 8, 9, 10, 11, 12, 13, 14, 15] rfl) (hD.sub [0, 1, 2, 3, 4, 5, 6, 7, 8, 9, 10, 11, 12, 13, 14, 15] (by decide) rfl) hS (lv_sub hl [1, 0] rfl))
      · refine lv_aload_n hx hb dX4_init_151 rfl (lv_at hl 0 rfl) ?_
        refine va_get (D := D) (ci := 4) (v := .ref q_12) (C := RX4) (T := TX4) (N := 25) hx hb hts iw_X4_init_4 hown hK hP 0 rfl rfl 19 (by decide) (hts _ wd_X4_init_19) (fun _ h9 => h9) rfl dX4_init_152 ?_
        refine lv_iload_n hx hb dX4_init_155 rfl (lv_at hl 1 rfl) ?_
        refine lv_bipush (v := 20) hx hb dX4_init_156 (by decide) ?_
        refine va_iast hx hb hK hP hD hS 12 0 rfl rfl (pf_X4_init_19 n_145 i1 k1 f1 hn_145 ek1 hk1 wk1 c_16) dX4_init_158 (fun H locs hP hD hS => ?_)
        have hP : va_P D vwCl [(y0, .inr (4, [.int 0, .int 0, .int 0, .int 0, .int 100, .int 0, .int 500, .int 300, .ref q_1, .ref q_2, .ref q_3, .ref q_4, .ref q_5, .ref q_6, .ref q_7, .ref q_8, .ref q_9, .ref q_10, .ref q_11, .ref q_12, .ref q_13, .ref q_14, .ref q_15, .long 0, .long 0])), (q_1, .inl (cI, 10, .inl (fun _ => (0 : Int32)))), (q_2, .inl (cI, 10, .inl (fun _ => (0 : Int32)))), (q_3, .inl (cI, 10, .inl (fun _ => (0 : Int32)))), (q_4, .inl (cI, 10, .inl (fun _ => (0 : Int32)))), (q_5, .inl (cI, 10, .inl (fun _ => (0 : Int32)))), (q_6, .inl (cI, 10, .inl (fun _ => (0 : Int32)))), (q_7, .inl (cI, 100, .inl (fun _ => (0 : Int32)))), (q_8, .inl (cI, 10, .inl (fun _ => (0 : Int32)))), (q_9, .inl (cI, 10, .inl (fun _ => (0 : Int32)))), (q_10, .inl (cI, 10, .inl (fun _ => (0 : Int32)))), (q_11, .inl (cI, 3, .inl (fun _ => (0 : Int32)))), (q_12, .inl (cI, 40, .inl (upd f1 k1.toNatClampNeg 20))), (q_13, .inl (cI, 6, .inl (fun _ => (0 : Int32)))), (q_14, .inl (cI, 6, .inl (fun _ => (0 : Int32)))), (q_15, .inl (cI, 10, .inl (fun _ => (0 : Int32))))] H := hP
        have hD : va_D A [(y0, .inr (4, [.int 0, .int 0, .int 0, .int 0, .int 100, .int 0, .int 500, .int 300, .ref q_1, .ref q_2, .ref q_3, .ref q_4, .ref q_5, .ref q_6, .ref q_7, .ref q_8, .ref q_9, .ref q_10, .ref q_11, .ref q_12, .ref q_13, .ref q_14, .ref q_15, .long 0, .long 0])), (q_1, .inl (cI, 10, .inl (fun _ => (0 : Int32)))), (q_2, .inl (cI, 10, .inl (fun _ => (0 : Int32)))), (q_3, .inl (cI, 10, .inl (fun _ => (0 : Int32)))), (q_4, .inl (cI, 10, .inl (fun _ => (0 : Int32)))), (q_5, .inl (cI, 10, .inl (fun _ => (0 : Int32)))), (q_6, .inl (cI, 10, .inl (fun _ => (0 : Int32)))), (q_7, .inl (cI, 100, .inl (fun _ => (0 : Int32)))), (q_8, .inl (cI, 10, .inl (fun _ => (0 : Int32)))), (q_9, .inl (cI, 10, .inl (fun _ => (0 : Int32)))), (q_10, .inl (cI, 10, .inl (fun _ => (0 : Int32)))), (q_11, .inl (cI, 3, .inl (fun _ => (0 : Int32)))), (q_12, .inl (cI, 40, .inl (upd f1 k1.toNatClampNeg 20))), (q_13, .inl (cI, 6, .inl (fun _ => (0 : Int32)))), (q_14, .inl (cI, 6, .inl (fun _ => (0 : Int32)))), (q_15, .inl (cI, 10, .inl (fun _ => (0 : Int32))))] := hD
        obtain ⟨v_21, ev_21⟩ : ∃ y : Int32, y = k1 + 1 := ⟨_, rfl⟩
        refine lv_iinc (v := v_21) (lv' := [(1, .int v_21), (0, .ref y0)]) hx hb dX4_init_159 hl (k := 1) rfl (by rw [ev_21]; rfl) (by decide) rfl (fun ls hl => ?_)
        refine lv_goto (tgt := 145) hx hb dX4_init_162 (by decide) ?_
        exact hOut _ _ _ _ _ (ih_145 (i1 + 1) v_21 (upd f1 k1.toNatClampNeg 20) _ _ _ (pf_X4_init_20 n_145 i1 k1 f1 v_21 hn_145 ek1 hk1 wk1 c_16 ev_21) (pf_X4_init_21 n_145 i1 k1 f1 v_21 hn_145 ek1 hk1 wk1 c_16 ev_21) (pf_X4_init_22 n_145 i1 k1 f1 v_21 hn_145 ek1 hk1 wk1 c_16 ev_21) (pf_X4_init_23 n_145 i1 k1 f1 v_21 hn_145 ek1 hk1 wk1 c_16 ev_21) (hP.sub [0, 1, 2, 3, 4, 5, 6, 7, 8, 9, 10, 11, 12, 13, 14, 15] rfl) (hD.sub [0, 1, 2, 3, 4, 5, 6, 7, 8, 9, 10, 11, 12, 13, 14, 15] (by decide) rfl) hS (lv_sub hl [1, 0] rfl))
  exact hOut _ _ _ _ _ (lp_145 (40 - 0 + 1) 0 0 (fun _ => (0 : Int32)) _ _ _ (Nat.lt_succ_self _) (pf_X4_init_24) (pf_X4_init_25) (pf_X4_init_26) (hP.sub [0, 1, 2, 3, 4, 5, 6, 7, 8, 9, 10, 11, 12, 13, 14, 15] rfl) (hD.sub [0, 1, 2, 3, 4, 5, 6, 7, 8, 9, 10, 11, 12, 13, 14, 15] (by decide) rfl) hS (lv_sub hl [1, 0] rfl))

set_option maxHeartbeats 1000000 in
theorem pf_X4_isDay_1 (d : Int32) (c_1 : d < 0) : (0 : Int32) = bDay d := by
  grind [bDay]
set_option maxHeartbeats 1000000 in
theorem pf_X4_isDay_2 (d : Int32) (c_1 : ¬ d < 0) (c_2 : 40 ≤ d) : (0 : Int32) = bDay d := by
  grind [bDay]
set_option maxHeartbeats 1000000 in
theorem pf_X4_isDay_3 (d : Int32) (c_1 : ¬ d < 0) (c_2 : ¬ 40 ≤ d) : (1 : Int32) = bDay d := by
  grind [bDay]
set_option maxHeartbeats 4000000 in
set_option maxRecDepth 100000 in
theorem c_X4_isDay (l : Launch) (D : va_G) (cI : ClassId) (sz : Nat) (d : Int32) : CtI l yX4_isDay wsX4_isDay 0 0 0 0 [.int d] D [(cI, .int)] [] sz (fun (r : Int32) (u : Unit) => r = bDay d) (fun (u : Unit) => []) := by
  refine Met.ofW (cc := cX4_isDay) (maxL := 1) (ret := (some .boolean)) (by decide) rfl ?_
  intro p e s m args below meth c s₁ B hml hv
  obtain ⟨rfl, hsz, hP, hK, hD0, hN⟩ := hv
  have hx := B.exec
  have hb := B.bytes
  have hr := B.returns
  have hts := atoms_spec (ws := wsX4_isDay) B.pre
  have hown : s.vm.findClass RX4 = some m.cls := findClass_of_methodNamed B.named
  have hlocks := B.notSynchronized
  subst hsz
  have hD := hD0.self (sz := s.heap.size)
  generalize hAe : va_A [] s.heap.size = A at hD ⊢
  have hA : ∀ q : Nat, s.heap.size ≤ q → A q := fun q h => by rw [← hAe]; exact Or.inr h
  have hS : va_S A s.heap s.heap [] := va_S.rf
  have hl := lv_entry ([.int d]) (n := 1) (Nat.le_of_ble_eq_true rfl)
  rw [lg_entry_eq]
  generalize (lg_sl ([.int d]) ++ List.replicate (1 - (lg_sl ([.int d])).length) Slot.unset).toArray = ls at hl ⊢
  have hl : lv_has ls 1 [(0, .int d)] := hl
  have hP0 := hP
  refine lv_iload_n hx hb dX4_isDay_0 rfl (lv_at hl 0 rfl) ?_
  refine lv_if_lt (tgt := 14) hx hb dX4_isDay_1 (by decide) (fun c_1 => ?_) (fun c_1 => ?_)
  · refine lv_iconst (v := 0) hx hb dX4_isDay_14 (by decide) ?_
    refine W.widen (k := 0) (n := 0) (Nat.le_of_ble_eq_true rfl) (Nat.le_of_ble_eq_true rfl) ?_
    exact fi_z () hx hb hr rfl hlocks hK (hP.sub [] rfl) (hD.sub [] (by decide) rfl) hS (pf_X4_isDay_1 d c_1) dX4_isDay_15
  · refine lv_iload_n hx hb dX4_isDay_4 rfl (lv_at hl 0 rfl) ?_
    refine lv_bipush (v := 40) hx hb dX4_isDay_5 (by decide) ?_
    refine lv_icmp_ge (tgt := 14) hx hb dX4_isDay_7 (by decide) (fun c_2 => ?_) (fun c_2 => ?_)
    · refine lv_iconst (v := 0) hx hb dX4_isDay_14 (by decide) ?_
      refine W.widen (k := 0) (n := 0) (Nat.le_of_ble_eq_true rfl) (Nat.le_of_ble_eq_true rfl) ?_
      exact fi_z () hx hb hr rfl hlocks hK (hP.sub [] rfl) (hD.sub [] (by decide) rfl) hS (pf_X4_isDay_2 d c_1 c_2) dX4_isDay_15
    · refine lv_iconst (v := 1) hx hb dX4_isDay_10 (by decide) ?_
      refine lv_goto (tgt := 15) hx hb dX4_isDay_11 (by decide) ?_
      refine W.widen (k := 0) (n := 0) (Nat.le_of_ble_eq_true rfl) (Nat.le_of_ble_eq_true rfl) ?_
      exact fi_z () hx hb hr rfl hlocks hK (hP.sub [] rfl) (hD.sub [] (by decide) rfl) hS (pf_X4_isDay_3 d c_1 c_2) dX4_isDay_15

theorem iw_X4_isPiece_0_4 : ∀ w ∈ wsX40, w ∈ wsX4_isPiece := fun w h => (List.mem_cons_of_mem _ (List.mem_append_right _ h))
theorem wd_X4_isPiece_0_1 : (.fieldLink RX4 67 "PourPlanModel" "pieces" "I" : Cond) ∈ wsX4_isPiece := List.mem_of_getElem? (i := 1) rfl
set_option maxHeartbeats 1000000 in
theorem pf_X4_isPiece_0_1 (a : Int32) (c_1 : a < 0) : (0 : Int32) = 0 := by
  grind
set_option maxHeartbeats 1000000 in
theorem pf_X4_isPiece_0_2 (a : Int32) (c_1 : ¬ a < 0) (c_2 : 0 ≤ a) : (0 : Int32) = 0 := by
  grind
set_option maxHeartbeats 1000000 in
theorem pf_X4_isPiece_0_3 (a : Int32) (c_1 : ¬ a < 0) (c_2 : ¬ 0 ≤ a) : (1 : Int32) = 0 := by
  grind
set_option maxHeartbeats 4000000 in
set_option maxRecDepth 100000 in
theorem c_X4_isPiece_0 (l : Launch) (D : va_G) (cI : ClassId) (sz : Nat) (y0 : Nat) (m_kind : Nat) (m_floor : Nat) (m_volume : Nat) (m_size : Nat) (m_faces : Nat) (m_when : Nat) (m_ahead : Nat) (m_order : Nat) (m_tried : Nat) (m_chosen : Nat) (m_forms : Nat) (m_warmth : Nat) (m_degrees : Nat) (m_thousandths : Nat) (m_longest : Nat) (a : Int32) : CtI l yX4_isPiece wsX4_isPiece 0 0 0 0 [.ref y0, .int a] D [(cI, .int)] [(y0, .inr (4, [.int 0, .int 0, .int 0, .int 0, .int 100, .int 0, .int 500, .int 300, .ref m_kind, .ref m_floor, .ref m_volume, .ref m_size, .ref m_faces, .ref m_when, .ref m_ahead, .ref m_order, .ref m_tried, .ref m_chosen, .ref m_forms, .ref m_warmth, .ref m_degrees, .ref m_thousandths, .ref m_longest, .long 0, .long 0]))] sz (fun (r : Int32) (u : Unit) => r = 0) (fun (u : Unit) => [(y0, .inr (4, [.int 0, .int 0, .int 0, .int 0, .int 100, .int 0, .int 500, .int 300, .ref m_kind, .ref m_floor, .ref m_volume, .ref m_size, .ref m_faces, .ref m_when, .ref m_ahead, .ref m_order, .ref m_tried, .ref m_chosen, .ref m_forms, .ref m_warmth, .ref m_degrees, .ref m_thousandths, .ref m_longest, .long 0, .long 0]))]) := by
  refine Met.ofW (cc := cX4_isPiece) (maxL := 2) (ret := (some .boolean)) (by decide) rfl ?_
  intro p e s m args below meth c s₁ B hml hv
  obtain ⟨rfl, hsz, hP, hK, hD0, hN⟩ := hv
  have hx := B.exec
  have hb := B.bytes
  have hr := B.returns
  have hts := atoms_spec (ws := wsX4_isPiece) B.pre
  have hown : s.vm.findClass RX4 = some m.cls := findClass_of_methodNamed B.named
  have hlocks := B.notSynchronized
  subst hsz
  have hD := hD0.self (sz := s.heap.size)
  generalize hAe : va_A [(y0, .inr (4, [.int 0, .int 0, .int 0, .int 0, .int 100, .int 0, .int 500, .int 300, .ref m_kind, .ref m_floor, .ref m_volume, .ref m_size, .ref m_faces, .ref m_when, .ref m_ahead, .ref m_order, .ref m_tried, .ref m_chosen, .ref m_forms, .ref m_warmth, .ref m_degrees, .ref m_thousandths, .ref m_longest, .long 0, .long 0]))] s.heap.size = A at hD ⊢
  have hA : ∀ q : Nat, s.heap.size ≤ q → A q := fun q h => by rw [← hAe]; exact Or.inr h
  have hS : va_S A s.heap s.heap [] := va_S.rf
  have hl := lv_entry ([.ref y0, .int a]) (n := 2) (Nat.le_of_ble_eq_true rfl)
  rw [lg_entry_eq]
  generalize (lg_sl ([.ref y0, .int a]) ++ List.replicate (2 - (lg_sl ([.ref y0, .int a])).length) Slot.unset).toArray = ls at hl ⊢
  have hl : lv_has ls 2 [(0, .ref y0), (1, .int a)] := hl
  have hP0 := hP
  refine lv_iload_n hx hb dX4_isPiece_0 rfl (lv_at hl 1 rfl) ?_
  refine lv_if_lt (tgt := 16) hx hb dX4_isPiece_1 (by decide) (fun c_1 => ?_) (fun c_1 => ?_)
  · refine lv_iconst (v := 0) hx hb dX4_isPiece_16 (by decide) ?_
    refine W.widen (k := 0) (n := 0) (Nat.le_of_ble_eq_true rfl) (Nat.le_of_ble_eq_true rfl) ?_
    exact fi_z () hx hb hr rfl hlocks hK (hP.sub [0] rfl) (hD.sub [0] (by decide) rfl) hS (pf_X4_isPiece_0_1 a c_1) dX4_isPiece_17
  · refine lv_iload_n hx hb dX4_isPiece_4 rfl (lv_at hl 1 rfl) ?_
    refine lv_aload_n hx hb dX4_isPiece_5 rfl (lv_at hl 0 rfl) ?_
    refine va_get (D := D) (ci := 4) (v := .int 0) (C := RX4) (T := TX4) (N := 25) hx hb hts iw_X4_isPiece_0_4 hown hK hP 0 rfl rfl 0 (by decide) (hts _ wd_X4_isPiece_0_1) (fun _ h9 => h9) rfl dX4_isPiece_6 ?_
    refine lv_icmp_ge (tgt := 16) hx hb dX4_isPiece_9 (by decide) (fun c_2 => ?_) (fun c_2 => ?_)
    · refine lv_iconst (v := 0) hx hb dX4_isPiece_16 (by decide) ?_
      refine W.widen (k := 0) (n := 0) (Nat.le_of_ble_eq_true rfl) (Nat.le_of_ble_eq_true rfl) ?_
      exact fi_z () hx hb hr rfl hlocks hK (hP.sub [0] rfl) (hD.sub [0] (by decide) rfl) hS (pf_X4_isPiece_0_2 a c_1 c_2) dX4_isPiece_17
    · refine lv_iconst (v := 1) hx hb dX4_isPiece_12 (by decide) ?_
      refine lv_goto (tgt := 17) hx hb dX4_isPiece_13 (by decide) ?_
      refine W.widen (k := 0) (n := 0) (Nat.le_of_ble_eq_true rfl) (Nat.le_of_ble_eq_true rfl) ?_
      exact fi_z () hx hb hr rfl hlocks hK (hP.sub [0] rfl) (hD.sub [0] (by decide) rfl) hS (pf_X4_isPiece_0_3 a c_1 c_2) dX4_isPiece_17

theorem iw_X4_piece_4 : ∀ w ∈ wsX40, w ∈ wsX4_piece := fun w h => (List.mem_cons_of_mem _ (List.mem_append_right _ h))
theorem wd_X4_piece_1 : (.fieldLink RX4 67 "PourPlanModel" "pieces" "I" : Cond) ∈ wsX4_piece := List.mem_of_getElem? (i := 1) rfl
theorem wd_X4_piece_2 : (.fieldLink RX4 21 "PourPlanModel" "kind" "[I" : Cond) ∈ wsX4_piece := List.mem_of_getElem? (i := 2) rfl
theorem wd_X4_piece_3 : (.fieldLink RX4 25 "PourPlanModel" "floor" "[I" : Cond) ∈ wsX4_piece := List.mem_of_getElem? (i := 3) rfl
theorem wd_X4_piece_4 : (.fieldLink RX4 28 "PourPlanModel" "volume" "[I" : Cond) ∈ wsX4_piece := List.mem_of_getElem? (i := 4) rfl
theorem wd_X4_piece_5 : (.fieldLink RX4 31 "PourPlanModel" "size" "[I" : Cond) ∈ wsX4_piece := List.mem_of_getElem? (i := 5) rfl
theorem wd_X4_piece_6 : (.fieldLink RX4 34 "PourPlanModel" "faces" "[I" : Cond) ∈ wsX4_piece := List.mem_of_getElem? (i := 6) rfl
theorem wd_X4_piece_7 : (.fieldLink RX4 37 "PourPlanModel" "when" "[I" : Cond) ∈ wsX4_piece := List.mem_of_getElem? (i := 7) rfl
theorem wd_X4_piece_8 : (.fieldLink RX4 43 "PourPlanModel" "order" "[I" : Cond) ∈ wsX4_piece := List.mem_of_getElem? (i := 8) rfl
set_option maxHeartbeats 1000000 in
theorem pf_X4_piece_1 (xk : Int32) (xf : Int32) (xv : Int32) (xs : Int32) (xn : Int32) (c_1 : xk < 0) : (-1 : Int32) = an_piece xk xf xv xs xn := by
  grind [an_piece]
set_option maxHeartbeats 1000000 in
theorem pf_X4_piece_2 (xk : Int32) (xf : Int32) (xv : Int32) (xs : Int32) (xn : Int32) (c_1 : ¬ xk < 0) (c_2 : 3 < xk) : (-1 : Int32) = an_piece xk xf xv xs xn := by
  grind [an_piece]
set_option maxHeartbeats 1000000 in
theorem pf_X4_piece_3 (xk : Int32) (xf : Int32) (xv : Int32) (xs : Int32) (xn : Int32) (c_1 : ¬ xk < 0) (c_2 : ¬ 3 < xk) (c_3 : xf < 0) : (-1 : Int32) = an_piece xk xf xv xs xn := by
  grind [an_piece]
set_option maxHeartbeats 1000000 in
theorem pf_X4_piece_4 (xk : Int32) (xf : Int32) (xv : Int32) (xs : Int32) (xn : Int32) (c_1 : ¬ xk < 0) (c_2 : ¬ 3 < xk) (c_3 : ¬ xf < 0) (c_4 : 5 < xf) : (-1 : Int32) = an_piece xk xf xv xs xn := by
  grind [an_piece]
set_option maxHeartbeats 1000000 in
theorem pf_X4_piece_5 (xk : Int32) (xf : Int32) (xv : Int32) (xs : Int32) (xn : Int32) (c_1 : ¬ xk < 0) (c_2 : ¬ 3 < xk) (c_3 : ¬ xf < 0) (c_4 : ¬ 5 < xf) (c_5 : xs < 0) : (-1 : Int32) = an_piece xk xf xv xs xn := by
  grind [an_piece]
set_option maxHeartbeats 1000000 in
theorem pf_X4_piece_6 (xk : Int32) (xf : Int32) (xv : Int32) (xs : Int32) (xn : Int32) (c_1 : ¬ xk < 0) (c_2 : ¬ 3 < xk) (c_3 : ¬ xf < 0) (c_4 : ¬ 5 < xf) (c_5 : ¬ xs < 0) (c_6 : xs ≤ 2) (c_7 : xv < 1) : (-2 : Int32) = an_piece xk xf xv xs xn := by
  grind [an_piece]
set_option maxHeartbeats 1000000 in
theorem pf_X4_piece_7 (xk : Int32) (xf : Int32) (xv : Int32) (xs : Int32) (xn : Int32) (c_1 : ¬ xk < 0) (c_2 : ¬ 3 < xk) (c_3 : ¬ xf < 0) (c_4 : ¬ 5 < xf) (c_5 : ¬ xs < 0) (c_6 : xs ≤ 2) (c_7 : ¬ xv < 1) (c_8 : 200 < xv) : (-2 : Int32) = an_piece xk xf xv xs xn := by
  grind [an_piece]
set_option maxHeartbeats 1000000 in
theorem pf_X4_piece_8 (xk : Int32) (xf : Int32) (xv : Int32) (xs : Int32) (xn : Int32) (c_1 : ¬ xk < 0) (c_2 : ¬ 3 < xk) (c_3 : ¬ xf < 0) (c_4 : ¬ 5 < xf) (c_5 : ¬ xs < 0) (c_6 : xs ≤ 2) (c_7 : ¬ xv < 1) (c_8 : ¬ 200 < xv) (c_9 : xn < 1) : (-2 : Int32) = an_piece xk xf xv xs xn := by
  grind [an_piece]
set_option maxHeartbeats 1000000 in
theorem pf_X4_piece_9 (xk : Int32) (xf : Int32) (xv : Int32) (xs : Int32) (xn : Int32) (v_12 : Int32) (c_1 : ¬ xk < 0) (c_2 : ¬ 3 < xk) (c_3 : ¬ xf < 0) (c_4 : ¬ 5 < xf) (c_5 : ¬ xs < 0) (c_6 : xs ≤ 2) (c_7 : ¬ xv < 1) (c_8 : ¬ 200 < xv) (c_9 : ¬ xn < 1) (c_10 : xn ≤ 9) (ev_12 : v_12 = 0 + 1) : (0 : Int32) = an_piece xk xf xv xs xn := by
  grind [an_piece]
set_option maxHeartbeats 1000000 in
theorem pf_X4_piece_10 (xk : Int32) (xf : Int32) (xv : Int32) (xs : Int32) (xn : Int32) (c_1 : ¬ xk < 0) (c_2 : ¬ 3 < xk) (c_3 : ¬ xf < 0) (c_4 : ¬ 5 < xf) (c_5 : ¬ xs < 0) (c_6 : xs ≤ 2) (c_7 : ¬ xv < 1) (c_8 : ¬ 200 < xv) (c_9 : ¬ xn < 1) (c_10 : ¬ xn ≤ 9) : (-2 : Int32) = an_piece xk xf xv xs xn := by
  grind [an_piece]
set_option maxHeartbeats 1000000 in
theorem pf_X4_piece_11 (xk : Int32) (xf : Int32) (xv : Int32) (xs : Int32) (xn : Int32) (c_1 : ¬ xk < 0) (c_2 : ¬ 3 < xk) (c_3 : ¬ xf < 0) (c_4 : ¬ 5 < xf) (c_5 : ¬ xs < 0) (c_6 : ¬ xs ≤ 2) : (-1 : Int32) = an_piece xk xf xv xs xn := by
  grind [an_piece]
set_option maxHeartbeats 4000000 in
set_option maxRecDepth 100000 in
theorem c_X4_piece (l : Launch) (D : va_G) (cI : ClassId) (sz : Nat) (y0 : Nat) (m_kind : Nat) (m_floor : Nat) (m_volume : Nat) (m_size : Nat) (m_faces : Nat) (m_when : Nat) (m_order : Nat) (m_ahead : Nat) (m_tried : Nat) (m_chosen : Nat) (m_forms : Nat) (m_warmth : Nat) (m_degrees : Nat) (m_thousandths : Nat) (m_longest : Nat) (u_kind : Nat → Int32) (u_floor : Nat → Int32) (u_volume : Nat → Int32) (u_size : Nat → Int32) (u_faces : Nat → Int32) (u_when : Nat → Int32) (u_order : Nat → Int32) (xk : Int32) (xf : Int32) (xv : Int32) (xs : Int32) (xn : Int32) : CtI l yX4_piece wsX4_piece 0 0 0 0 [.ref y0, .int xk, .int xf, .int xv, .int xs, .int xn] D [(cI, .int)] [(y0, .inr (4, [.int 0, .int 0, .int 0, .int 0, .int 100, .int 0, .int 500, .int 300, .ref m_kind, .ref m_floor, .ref m_volume, .ref m_size, .ref m_faces, .ref m_when, .ref m_ahead, .ref m_order, .ref m_tried, .ref m_chosen, .ref m_forms, .ref m_warmth, .ref m_degrees, .ref m_thousandths, .ref m_longest, .long 0, .long 0])), (m_kind, .inl (cI, 10, .inl u_kind)), (m_floor, .inl (cI, 10, .inl u_floor)), (m_volume, .inl (cI, 10, .inl u_volume)), (m_size, .inl (cI, 10, .inl u_size)), (m_faces, .inl (cI, 10, .inl u_faces)), (m_when, .inl (cI, 10, .inl u_when)), (m_order, .inl (cI, 10, .inl u_order))] sz (fun (r : Int32) (u : Int32 × (Nat → Int32) × (Nat → Int32) × (Nat → Int32) × (Nat → Int32) × (Nat → Int32) × (Nat → Int32) × (Nat → Int32)) => r = an_piece xk xf xv xs xn) (fun (u : Int32 × (Nat → Int32) × (Nat → Int32) × (Nat → Int32) × (Nat → Int32) × (Nat → Int32) × (Nat → Int32) × (Nat → Int32)) => [(y0, .inr (4, [.int u.1, .int 0, .int 0, .int 0, .int 100, .int 0, .int 500, .int 300, .ref m_kind, .ref m_floor, .ref m_volume, .ref m_size, .ref m_faces, .ref m_when, .ref m_ahead, .ref m_order, .ref m_tried, .ref m_chosen, .ref m_forms, .ref m_warmth, .ref m_degrees, .ref m_thousandths, .ref m_longest, .long 0, .long 0])), (m_kind, .inl (cI, 10, .inl u.2.1)), (m_floor, .inl (cI, 10, .inl u.2.2.1)), (m_volume, .inl (cI, 10, .inl u.2.2.2.1)), (m_size, .inl (cI, 10, .inl u.2.2.2.2.1)), (m_faces, .inl (cI, 10, .inl u.2.2.2.2.2.1)), (m_when, .inl (cI, 10, .inl u.2.2.2.2.2.2.1)), (m_order, .inl (cI, 10, .inl u.2.2.2.2.2.2.2))]) := by
  refine Met.ofW (cc := cX4_piece) (maxL := 6) (ret := (some .int)) (by decide) rfl ?_
  intro p e s m args below meth c s₁ B hml hv
  obtain ⟨rfl, hsz, hP, hK, hD0, hN⟩ := hv
  have hx := B.exec
  have hb := B.bytes
  have hr := B.returns
  have hts := atoms_spec (ws := wsX4_piece) B.pre
  have hown : s.vm.findClass RX4 = some m.cls := findClass_of_methodNamed B.named
  have hlocks := B.notSynchronized
  subst hsz
  have hD := hD0.self (sz := s.heap.size)
  generalize hAe : va_A [(y0, .inr (4, [.int 0, .int 0, .int 0, .int 0, .int 100, .int 0, .int 500, .int 300, .ref m_kind, .ref m_floor, .ref m_volume, .ref m_size, .ref m_faces, .ref m_when, .ref m_ahead, .ref m_order, .ref m_tried, .ref m_chosen, .ref m_forms, .ref m_warmth, .ref m_degrees, .ref m_thousandths, .ref m_longest, .long 0, .long 0])), (m_kind, .inl (cI, 10, .inl u_kind)), (m_floor, .inl (cI, 10, .inl u_floor)), (m_volume, .inl (cI, 10, .inl u_volume)), (m_size, .inl (cI, 10, .inl u_size)), (m_faces, .inl (cI, 10, .inl u_faces)), (m_when, .inl (cI, 10, .inl u_when)), (m_order, .inl (cI, 10, .inl u_order))] s.heap.size = A at hD ⊢
  have hA : ∀ q : Nat, s.heap.size ≤ q → A q := fun q h => by rw [← hAe]; exact Or.inr h
  have hS : va_S A s.heap s.heap [] := va_S.rf
  have hl := lv_entry ([.ref y0, .int xk, .int xf, .int xv, .int xs, .int xn]) (n := 6) (Nat.le_of_ble_eq_true rfl)
  rw [lg_entry_eq]
  generalize (lg_sl ([.ref y0, .int xk, .int xf, .int xv, .int xs, .int xn]) ++ List.replicate (6 - (lg_sl ([.ref y0, .int xk, .int xf, .int xv, .int xs, .int xn])).length) Slot.unset).toArray = ls at hl ⊢
  have hl : lv_has ls 6 [(0, .ref y0), (1, .int xk), (2, .int xf), (3, .int xv), (4, .int xs), (5, .int xn)] := hl
  have hP0 := hP
  refine lv_iload_n hx hb dX4_piece_0 rfl (lv_at hl 1 rfl) ?_
  refine lv_if_lt (tgt := 29) hx hb dX4_piece_1 (by decide) (fun c_1 => ?_) (fun c_1 => ?_)
  · refine lv_iconst (v := (-1)) hx hb dX4_piece_29 (by decide) ?_
    refine W.widen (k := 0) (n := 0) (Nat.le_of_ble_eq_true rfl) (Nat.le_of_ble_eq_true rfl) ?_
    exact fi_i (0, u_kind, u_floor, u_volume, u_size, u_faces, u_when, u_order) hx hb hr hlocks hK (hP.sub [0, 1, 2, 3, 4, 5, 6, 7] rfl) (hD.sub [0, 1, 2, 3, 4, 5, 6, 7] (by decide) rfl) hS (pf_X4_piece_1 xk xf xv xs xn c_1) dX4_piece_30
  · refine lv_iload_n hx hb dX4_piece_4 rfl (lv_at hl 1 rfl) ?_
    refine lv_iconst (v := 3) hx hb dX4_piece_5 (by decide) ?_
    refine lv_icmp_gt (tgt := 29) hx hb dX4_piece_6 (by decide) (fun c_2 => ?_) (fun c_2 => ?_)
    · refine lv_iconst (v := (-1)) hx hb dX4_piece_29 (by decide) ?_
      refine W.widen (k := 0) (n := 0) (Nat.le_of_ble_eq_true rfl) (Nat.le_of_ble_eq_true rfl) ?_
      exact fi_i (0, u_kind, u_floor, u_volume, u_size, u_faces, u_when, u_order) hx hb hr hlocks hK (hP.sub [0, 1, 2, 3, 4, 5, 6, 7] rfl) (hD.sub [0, 1, 2, 3, 4, 5, 6, 7] (by decide) rfl) hS (pf_X4_piece_2 xk xf xv xs xn c_1 c_2) dX4_piece_30
    · refine lv_iload_n hx hb dX4_piece_9 rfl (lv_at hl 2 rfl) ?_
      refine lv_if_lt (tgt := 29) hx hb dX4_piece_10 (by decide) (fun c_3 => ?_) (fun c_3 => ?_)
      · refine lv_iconst (v := (-1)) hx hb dX4_piece_29 (by decide) ?_
        refine W.widen (k := 0) (n := 0) (Nat.le_of_ble_eq_true rfl) (Nat.le_of_ble_eq_true rfl) ?_
        exact fi_i (0, u_kind, u_floor, u_volume, u_size, u_faces, u_when, u_order) hx hb hr hlocks hK (hP.sub [0, 1, 2, 3, 4, 5, 6, 7] rfl) (hD.sub [0, 1, 2, 3, 4, 5, 6, 7] (by decide) rfl) hS (pf_X4_piece_3 xk xf xv xs xn c_1 c_2 c_3) dX4_piece_30
      · refine lv_iload_n hx hb dX4_piece_13 rfl (lv_at hl 2 rfl) ?_
        refine lv_iconst (v := 5) hx hb dX4_piece_14 (by decide) ?_
        refine lv_icmp_gt (tgt := 29) hx hb dX4_piece_15 (by decide) (fun c_4 => ?_) (fun c_4 => ?_)
        · refine lv_iconst (v := (-1)) hx hb dX4_piece_29 (by decide) ?_
          refine W.widen (k := 0) (n := 0) (Nat.le_of_ble_eq_true rfl) (Nat.le_of_ble_eq_true rfl) ?_
          exact fi_i (0, u_kind, u_floor, u_volume, u_size, u_faces, u_when, u_order) hx hb hr hlocks hK (hP.sub [0, 1, 2, 3, 4, 5, 6, 7] rfl) (hD.sub [0, 1, 2, 3, 4, 5, 6, 7] (by decide) rfl) hS (pf_X4_piece_4 xk xf xv xs xn c_1 c_2 c_3 c_4) dX4_piece_30
        · refine lv_iload hx hb dX4_piece_18 (lv_at hl 4 rfl) ?_
          refine lv_if_lt (tgt := 29) hx hb dX4_piece_20 (by decide) (fun c_5 => ?_) (fun c_5 => ?_)
          · refine lv_iconst (v := (-1)) hx hb dX4_piece_29 (by decide) ?_
            refine W.widen (k := 0) (n := 0) (Nat.le_of_ble_eq_true rfl) (Nat.le_of_ble_eq_true rfl) ?_
            exact fi_i (0, u_kind, u_floor, u_volume, u_size, u_faces, u_when, u_order) hx hb hr hlocks hK (hP.sub [0, 1, 2, 3, 4, 5, 6, 7] rfl) (hD.sub [0, 1, 2, 3, 4, 5, 6, 7] (by decide) rfl) hS (pf_X4_piece_5 xk xf xv xs xn c_1 c_2 c_3 c_4 c_5) dX4_piece_30
          · refine lv_iload hx hb dX4_piece_23 (lv_at hl 4 rfl) ?_
            refine lv_iconst (v := 2) hx hb dX4_piece_25 (by decide) ?_
            refine lv_icmp_le (tgt := 31) hx hb dX4_piece_26 (by decide) (fun c_6 => ?_) (fun c_6 => ?_)
            · refine lv_iload_n hx hb dX4_piece_31 rfl (lv_at hl 3 rfl) ?_
              refine lv_iconst (v := 1) hx hb dX4_piece_32 (by decide) ?_
              refine lv_icmp_lt (tgt := 56) hx hb dX4_piece_33 (by decide) (fun c_7 => ?_) (fun c_7 => ?_)
              · refine lv_bipush (v := (-2)) hx hb dX4_piece_56 (by decide) ?_
                refine W.widen (k := 0) (n := 0) (Nat.le_of_ble_eq_true rfl) (Nat.le_of_ble_eq_true rfl) ?_
                exact fi_i (0, u_kind, u_floor, u_volume, u_size, u_faces, u_when, u_order) hx hb hr hlocks hK (hP.sub [0, 1, 2, 3, 4, 5, 6, 7] rfl) (hD.sub [0, 1, 2, 3, 4, 5, 6, 7] (by decide) rfl) hS (pf_X4_piece_6 xk xf xv xs xn c_1 c_2 c_3 c_4 c_5 c_6 c_7) dX4_piece_58
              · refine lv_iload_n hx hb dX4_piece_36 rfl (lv_at hl 3 rfl) ?_
                refine lv_sipush (v := 200) hx hb dX4_piece_37 (by decide) ?_
                refine lv_icmp_gt (tgt := 56) hx hb dX4_piece_40 (by decide) (fun c_8 => ?_) (fun c_8 => ?_)
                · refine lv_bipush (v := (-2)) hx hb dX4_piece_56 (by decide) ?_
                  refine W.widen (k := 0) (n := 0) (Nat.le_of_ble_eq_true rfl) (Nat.le_of_ble_eq_true rfl) ?_
                  exact fi_i (0, u_kind, u_floor, u_volume, u_size, u_faces, u_when, u_order) hx hb hr hlocks hK (hP.sub [0, 1, 2, 3, 4, 5, 6, 7] rfl) (hD.sub [0, 1, 2, 3, 4, 5, 6, 7] (by decide) rfl) hS (pf_X4_piece_7 xk xf xv xs xn c_1 c_2 c_3 c_4 c_5 c_6 c_7 c_8) dX4_piece_58
                · refine lv_iload hx hb dX4_piece_43 (lv_at hl 5 rfl) ?_
                  refine lv_iconst (v := 1) hx hb dX4_piece_45 (by decide) ?_
                  refine lv_icmp_lt (tgt := 56) hx hb dX4_piece_46 (by decide) (fun c_9 => ?_) (fun c_9 => ?_)
                  · refine lv_bipush (v := (-2)) hx hb dX4_piece_56 (by decide) ?_
                    refine W.widen (k := 0) (n := 0) (Nat.le_of_ble_eq_true rfl) (Nat.le_of_ble_eq_true rfl) ?_
                    exact fi_i (0, u_kind, u_floor, u_volume, u_size, u_faces, u_when, u_order) hx hb hr hlocks hK (hP.sub [0, 1, 2, 3, 4, 5, 6, 7] rfl) (hD.sub [0, 1, 2, 3, 4, 5, 6, 7] (by decide) rfl) hS (pf_X4_piece_8 xk xf xv xs xn c_1 c_2 c_3 c_4 c_5 c_6 c_7 c_8 c_9) dX4_piece_58
                  · refine lv_iload hx hb dX4_piece_49 (lv_at hl 5 rfl) ?_
                    refine lv_bipush (v := 9) hx hb dX4_piece_51 (by decide) ?_
                    refine lv_icmp_le (tgt := 59) hx hb dX4_piece_53 (by decide) (fun c_10 => ?_) (fun c_10 => ?_)
                    · refine lv_aload_n hx hb dX4_piece_59 rfl (lv_at hl 0 rfl) ?_
                      refine va_get (D := D) (ci := 4) (v := .int 0) (C := RX4) (T := TX4) (N := 25) hx hb hts iw_X4_piece_4 hown hK hP 0 rfl rfl 0 (by decide) (hts _ wd_X4_piece_1) (fun _ h9 => h9) rfl dX4_piece_60 ?_
                      refine lv_bipush (v := 10) hx hb dX4_piece_63 (by decide) ?_
                      refine lv_icmp_ne (tgt := 71) hx hb dX4_piece_65 (by decide) (fun _ => ?_) (fun h => absurd h (by decide))
                      refine lv_aload_n hx hb dX4_piece_71 rfl (lv_at hl 0 rfl) ?_
                      refine va_get (D := D) (ci := 4) (v := .ref m_kind) (C := RX4) (T := TX4) (N := 25) hx hb hts iw_X4_piece_4 hown hK hP 0 rfl rfl 8 (by decide) (hts _ wd_X4_piece_2) (fun _ h9 => h9) rfl dX4_piece_72 ?_
                      refine lv_aload_n hx hb dX4_piece_75 rfl (lv_at hl 0 rfl) ?_
                      refine va_get (D := D) (ci := 4) (v := .int 0) (C := RX4) (T := TX4) (N := 25) hx hb hts iw_X4_piece_4 hown hK hP 0 rfl rfl 0 (by decide) (hts _ wd_X4_piece_1) (fun _ h9 => h9) rfl dX4_piece_76 ?_
                      refine lv_iload_n hx hb dX4_piece_79 rfl (lv_at hl 1 rfl) ?_
                      refine va_iast hx hb hK hP hD hS 1 0 rfl rfl (by unfold vp_in; decide) dX4_piece_80 (fun H locs hP hD hS => ?_)
                      have hP : va_P D vwCl [(y0, .inr (4, [.int 0, .int 0, .int 0, .int 0, .int 100, .int 0, .int 500, .int 300, .ref m_kind, .ref m_floor, .ref m_volume, .ref m_size, .ref m_faces, .ref m_when, .ref m_ahead, .ref m_order, .ref m_tried, .ref m_chosen, .ref m_forms, .ref m_warmth, .ref m_degrees, .ref m_thousandths, .ref m_longest, .long 0, .long 0])), (m_kind, .inl (cI, 10, .inl (upd u_kind 0 xk))), (m_floor, .inl (cI, 10, .inl u_floor)), (m_volume, .inl (cI, 10, .inl u_volume)), (m_size, .inl (cI, 10, .inl u_size)), (m_faces, .inl (cI, 10, .inl u_faces)), (m_when, .inl (cI, 10, .inl u_when)), (m_order, .inl (cI, 10, .inl u_order))] H := hP
                      have hD : va_D A [(y0, .inr (4, [.int 0, .int 0, .int 0, .int 0, .int 100, .int 0, .int 500, .int 300, .ref m_kind, .ref m_floor, .ref m_volume, .ref m_size, .ref m_faces, .ref m_when, .ref m_ahead, .ref m_order, .ref m_tried, .ref m_chosen, .ref m_forms, .ref m_warmth, .ref m_degrees, .ref m_thousandths, .ref m_longest, .long 0, .long 0])), (m_kind, .inl (cI, 10, .inl (upd u_kind 0 xk))), (m_floor, .inl (cI, 10, .inl u_floor)), (m_volume, .inl (cI, 10, .inl u_volume)), (m_size, .inl (cI, 10, .inl u_size)), (m_faces, .inl (cI, 10, .inl u_faces)), (m_when, .inl (cI, 10, .inl u_when)), (m_order, .inl (cI, 10, .inl u_order))] := hD
                      refine lv_aload_n hx hb dX4_piece_81 rfl (lv_at hl 0 rfl) ?_
                      refine va_get (D := D) (ci := 4) (v := .ref m_floor) (C := RX4) (T := TX4) (N := 25) hx hb hts iw_X4_piece_4 hown hK hP 0 rfl rfl 9 (by decide) (hts _ wd_X4_piece_3) (fun _ h9 => h9) rfl dX4_piece_82 ?_
                      refine lv_aload_n hx hb dX4_piece_85 rfl (lv_at hl 0 rfl) ?_
                      refine va_get (D := D) (ci := 4) (v := .int 0) (C := RX4) (T := TX4) (N := 25) hx hb hts iw_X4_piece_4 hown hK hP 0 rfl rfl 0 (by decide) (hts _ wd_X4_piece_1) (fun _ h9 => h9) rfl dX4_piece_86 ?_
                      refine lv_iload_n hx hb dX4_piece_89 rfl (lv_at hl 2 rfl) ?_
                      refine va_iast hx hb hK hP hD hS 2 0 rfl rfl (by unfold vp_in; decide) dX4_piece_90 (fun H locs hP hD hS => ?_)
                      have hP : va_P D vwCl [(y0, .inr (4, [.int 0, .int 0, .int 0, .int 0, .int 100, .int 0, .int 500, .int 300, .ref m_kind, .ref m_floor, .ref m_volume, .ref m_size, .ref m_faces, .ref m_when, .ref m_ahead, .ref m_order, .ref m_tried, .ref m_chosen, .ref m_forms, .ref m_warmth, .ref m_degrees, .ref m_thousandths, .ref m_longest, .long 0, .long 0])), (m_kind, .inl (cI, 10, .inl (upd u_kind 0 xk))), (m_floor, .inl (cI, 10, .inl (upd u_floor 0 xf))), (m_volume, .inl (cI, 10, .inl u_volume)), (m_size, .inl (cI, 10, .inl u_size)), (m_faces, .inl (cI, 10, .inl u_faces)), (m_when, .inl (cI, 10, .inl u_when)), (m_order, .inl (cI, 10, .inl u_order))] H := hP
                      have hD : va_D A [(y0, .inr (4, [.int 0, .int 0, .int 0, .int 0, .int 100, .int 0, .int 500, .int 300, .ref m_kind, .ref m_floor, .ref m_volume, .ref m_size, .ref m_faces, .ref m_when, .ref m_ahead, .ref m_order, .ref m_tried, .ref m_chosen, .ref m_forms, .ref m_warmth, .ref m_degrees, .ref m_thousandths, .ref m_longest, .long 0, .long 0])), (m_kind, .inl (cI, 10, .inl (upd u_kind 0 xk))), (m_floor, .inl (cI, 10, .inl (upd u_floor 0 xf))), (m_volume, .inl (cI, 10, .inl u_volume)), (m_size, .inl (cI, 10, .inl u_size)), (m_faces, .inl (cI, 10, .inl u_faces)), (m_when, .inl (cI, 10, .inl u_when)), (m_order, .inl (cI, 10, .inl u_order))] := hD
                      refine lv_aload_n hx hb dX4_piece_91 rfl (lv_at hl 0 rfl) ?_
                      refine va_get (D := D) (ci := 4) (v := .ref m_volume) (C := RX4) (T := TX4) (N := 25) hx hb hts iw_X4_piece_4 hown hK hP 0 rfl rfl 10 (by decide) (hts _ wd_X4_piece_4) (fun _ h9 => h9) rfl dX4_piece_92 ?_
                      refine lv_aload_n hx hb dX4_piece_95 rfl (lv_at hl 0 rfl) ?_
                      refine va_get (D := D) (ci := 4) (v := .int 0) (C := RX4) (T := TX4) (N := 25) hx hb hts iw_X4_piece_4 hown hK hP 0 rfl rfl 0 (by decide) (hts _ wd_X4_piece_1) (fun _ h9 => h9) rfl dX4_piece_96 ?_
                      refine lv_iload_n hx hb dX4_piece_99 rfl (lv_at hl 3 rfl) ?_
                      refine va_iast hx hb hK hP hD hS 3 0 rfl rfl (by unfold vp_in; decide) dX4_piece_100 (fun H locs hP hD hS => ?_)
                      have hP : va_P D vwCl [(y0, .inr (4, [.int 0, .int 0, .int 0, .int 0, .int 100, .int 0, .int 500, .int 300, .ref m_kind, .ref m_floor, .ref m_volume, .ref m_size, .ref m_faces, .ref m_when, .ref m_ahead, .ref m_order, .ref m_tried, .ref m_chosen, .ref m_forms, .ref m_warmth, .ref m_degrees, .ref m_thousandths, .ref m_longest, .long 0, .long 0])), (m_kind, .inl (cI, 10, .inl (upd u_kind 0 xk))), (m_floor, .inl (cI, 10, .inl (upd u_floor 0 xf))), (m_volume, .inl (cI, 10, .inl (upd u_volume 0 xv))), (m_size, .inl (cI, 10, .inl u_size)), (m_faces, .inl (cI, 10, .inl u_faces)), (m_when, .inl (cI, 10, .inl u_when)), (m_order, .inl (cI, 10, .inl u_order))] H := hP
                      have hD : va_D A [(y0, .inr (4, [.int 0, .int 0, .int 0, .int 0, .int 100, .int 0, .int 500, .int 300, .ref m_kind, .ref m_floor, .ref m_volume, .ref m_size, .ref m_faces, .ref m_when, .ref m_ahead, .ref m_order, .ref m_tried, .ref m_chosen, .ref m_forms, .ref m_warmth, .ref m_degrees, .ref m_thousandths, .ref m_longest, .long 0, .long 0])), (m_kind, .inl (cI, 10, .inl (upd u_kind 0 xk))), (m_floor, .inl (cI, 10, .inl (upd u_floor 0 xf))), (m_volume, .inl (cI, 10, .inl (upd u_volume 0 xv))), (m_size, .inl (cI, 10, .inl u_size)), (m_faces, .inl (cI, 10, .inl u_faces)), (m_when, .inl (cI, 10, .inl u_when)), (m_order, .inl (cI, 10, .inl u_order))] := hD
                      refine lv_aload_n hx hb dX4_piece_101 rfl (lv_at hl 0 rfl) ?_
                      refine va_get (D := D) (ci := 4) (v := .ref m_size) (C := RX4) (T := TX4) (N := 25) hx hb hts iw_X4_piece_4 hown hK hP 0 rfl rfl 11 (by decide) (hts _ wd_X4_piece_5) (fun _ h9 => h9) rfl dX4_piece_102 ?_
                      refine lv_aload_n hx hb dX4_piece_105 rfl (lv_at hl 0 rfl) ?_
                      refine va_get (D := D) (ci := 4) (v := .int 0) (C := RX4) (T := TX4) (N := 25) hx hb hts iw_X4_piece_4 hown hK hP 0 rfl rfl 0 (by decide) (hts _ wd_X4_piece_1) (fun _ h9 => h9) rfl dX4_piece_106 ?_
                      refine lv_iload hx hb dX4_piece_109 (lv_at hl 4 rfl) ?_
                      refine va_iast hx hb hK hP hD hS 4 0 rfl rfl (by unfold vp_in; decide) dX4_piece_111 (fun H locs hP hD hS => ?_)
                      have hP : va_P D vwCl [(y0, .inr (4, [.int 0, .int 0, .int 0, .int 0, .int 100, .int 0, .int 500, .int 300, .ref m_kind, .ref m_floor, .ref m_volume, .ref m_size, .ref m_faces, .ref m_when, .ref m_ahead, .ref m_order, .ref m_tried, .ref m_chosen, .ref m_forms, .ref m_warmth, .ref m_degrees, .ref m_thousandths, .ref m_longest, .long 0, .long 0])), (m_kind, .inl (cI, 10, .inl (upd u_kind 0 xk))), (m_floor, .inl (cI, 10, .inl (upd u_floor 0 xf))), (m_volume, .inl (cI, 10, .inl (upd u_volume 0 xv))), (m_size, .inl (cI, 10, .inl (upd u_size 0 xs))), (m_faces, .inl (cI, 10, .inl u_faces)), (m_when, .inl (cI, 10, .inl u_when)), (m_order, .inl (cI, 10, .inl u_order))] H := hP
                      have hD : va_D A [(y0, .inr (4, [.int 0, .int 0, .int 0, .int 0, .int 100, .int 0, .int 500, .int 300, .ref m_kind, .ref m_floor, .ref m_volume, .ref m_size, .ref m_faces, .ref m_when, .ref m_ahead, .ref m_order, .ref m_tried, .ref m_chosen, .ref m_forms, .ref m_warmth, .ref m_degrees, .ref m_thousandths, .ref m_longest, .long 0, .long 0])), (m_kind, .inl (cI, 10, .inl (upd u_kind 0 xk))), (m_floor, .inl (cI, 10, .inl (upd u_floor 0 xf))), (m_volume, .inl (cI, 10, .inl (upd u_volume 0 xv))), (m_size, .inl (cI, 10, .inl (upd u_size 0 xs))), (m_faces, .inl (cI, 10, .inl u_faces)), (m_when, .inl (cI, 10, .inl u_when)), (m_order, .inl (cI, 10, .inl u_order))] := hD
                      refine lv_aload_n hx hb dX4_piece_112 rfl (lv_at hl 0 rfl) ?_
                      refine va_get (D := D) (ci := 4) (v := .ref m_faces) (C := RX4) (T := TX4) (N := 25) hx hb hts iw_X4_piece_4 hown hK hP 0 rfl rfl 12 (by decide) (hts _ wd_X4_piece_6) (fun _ h9 => h9) rfl dX4_piece_113 ?_
                      refine lv_aload_n hx hb dX4_piece_116 rfl (lv_at hl 0 rfl) ?_
                      refine va_get (D := D) (ci := 4) (v := .int 0) (C := RX4) (T := TX4) (N := 25) hx hb hts iw_X4_piece_4 hown hK hP 0 rfl rfl 0 (by decide) (hts _ wd_X4_piece_1) (fun _ h9 => h9) rfl dX4_piece_117 ?_
                      refine lv_iload hx hb dX4_piece_120 (lv_at hl 5 rfl) ?_
                      refine va_iast hx hb hK hP hD hS 5 0 rfl rfl (by unfold vp_in; decide) dX4_piece_122 (fun H locs hP hD hS => ?_)
                      have hP : va_P D vwCl [(y0, .inr (4, [.int 0, .int 0, .int 0, .int 0, .int 100, .int 0, .int 500, .int 300, .ref m_kind, .ref m_floor, .ref m_volume, .ref m_size, .ref m_faces, .ref m_when, .ref m_ahead, .ref m_order, .ref m_tried, .ref m_chosen, .ref m_forms, .ref m_warmth, .ref m_degrees, .ref m_thousandths, .ref m_longest, .long 0, .long 0])), (m_kind, .inl (cI, 10, .inl (upd u_kind 0 xk))), (m_floor, .inl (cI, 10, .inl (upd u_floor 0 xf))), (m_volume, .inl (cI, 10, .inl (upd u_volume 0 xv))), (m_size, .inl (cI, 10, .inl (upd u_size 0 xs))), (m_faces, .inl (cI, 10, .inl (upd u_faces 0 xn))), (m_when, .inl (cI, 10, .inl u_when)), (m_order, .inl (cI, 10, .inl u_order))] H := hP
                      have hD : va_D A [(y0, .inr (4, [.int 0, .int 0, .int 0, .int 0, .int 100, .int 0, .int 500, .int 300, .ref m_kind, .ref m_floor, .ref m_volume, .ref m_size, .ref m_faces, .ref m_when, .ref m_ahead, .ref m_order, .ref m_tried, .ref m_chosen, .ref m_forms, .ref m_warmth, .ref m_degrees, .ref m_thousandths, .ref m_longest, .long 0, .long 0])), (m_kind, .inl (cI, 10, .inl (upd u_kind 0 xk))), (m_floor, .inl (cI, 10, .inl (upd u_floor 0 xf))), (m_volume, .inl (cI, 10, .inl (upd u_volume 0 xv))), (m_size, .inl (cI, 10, .inl (upd u_size 0 xs))), (m_faces, .inl (cI, 10, .inl (upd u_faces 0 xn))), (m_when, .inl (cI, 10, .inl u_when)), (m_order, .inl (cI, 10, .inl u_order))] := hD
                      refine lv_aload_n hx hb dX4_piece_123 rfl (lv_at hl 0 rfl) ?_
                      refine va_get (D := D) (ci := 4) (v := .ref m_when) (C := RX4) (T := TX4) (N := 25) hx hb hts iw_X4_piece_4 hown hK hP 0 rfl rfl 13 (by decide) (hts _ wd_X4_piece_7) (fun _ h9 => h9) rfl dX4_piece_124 ?_
                      refine lv_aload_n hx hb dX4_piece_127 rfl (lv_at hl 0 rfl) ?_
                      refine va_get (D := D) (ci := 4) (v := .int 0) (C := RX4) (T := TX4) (N := 25) hx hb hts iw_X4_piece_4 hown hK hP 0 rfl rfl 0 (by decide) (hts _ wd_X4_piece_1) (fun _ h9 => h9) rfl dX4_piece_128 ?_
                      refine lv_iconst (v := (-1)) hx hb dX4_piece_131 (by decide) ?_
                      refine va_iast hx hb hK hP hD hS 6 0 rfl rfl (by unfold vp_in; decide) dX4_piece_132 (fun H locs hP hD hS => ?_)
                      have hP : va_P D vwCl [(y0, .inr (4, [.int 0, .int 0, .int 0, .int 0, .int 100, .int 0, .int 500, .int 300, .ref m_kind, .ref m_floor, .ref m_volume, .ref m_size, .ref m_faces, .ref m_when, .ref m_ahead, .ref m_order, .ref m_tried, .ref m_chosen, .ref m_forms, .ref m_warmth, .ref m_degrees, .ref m_thousandths, .ref m_longest, .long 0, .long 0])), (m_kind, .inl (cI, 10, .inl (upd u_kind 0 xk))), (m_floor, .inl (cI, 10, .inl (upd u_floor 0 xf))), (m_volume, .inl (cI, 10, .inl (upd u_volume 0 xv))), (m_size, .inl (cI, 10, .inl (upd u_size 0 xs))), (m_faces, .inl (cI, 10, .inl (upd u_faces 0 xn))), (m_when, .inl (cI, 10, .inl (upd u_when 0 (-1)))), (m_order, .inl (cI, 10, .inl u_order))] H := hP
                      have hD : va_D A [(y0, .inr (4, [.int 0, .int 0, .int 0, .int 0, .int 100, .int 0, .int 500, .int 300, .ref m_kind, .ref m_floor, .ref m_volume, .ref m_size, .ref m_faces, .ref m_when, .ref m_ahead, .ref m_order, .ref m_tried, .ref m_chosen, .ref m_forms, .ref m_warmth, .ref m_degrees, .ref m_thousandths, .ref m_longest, .long 0, .long 0])), (m_kind, .inl (cI, 10, .inl (upd u_kind 0 xk))), (m_floor, .inl (cI, 10, .inl (upd u_floor 0 xf))), (m_volume, .inl (cI, 10, .inl (upd u_volume 0 xv))), (m_size, .inl (cI, 10, .inl (upd u_size 0 xs))), (m_faces, .inl (cI, 10, .inl (upd u_faces 0 xn))), (m_when, .inl (cI, 10, .inl (upd u_when 0 (-1)))), (m_order, .inl (cI, 10, .inl u_order))] := hD
                      refine lv_aload_n hx hb dX4_piece_133 rfl (lv_at hl 0 rfl) ?_
                      refine va_get (D := D) (ci := 4) (v := .ref m_order) (C := RX4) (T := TX4) (N := 25) hx hb hts iw_X4_piece_4 hown hK hP 0 rfl rfl 15 (by decide) (hts _ wd_X4_piece_8) (fun _ h9 => h9) rfl dX4_piece_134 ?_
                      refine lv_aload_n hx hb dX4_piece_137 rfl (lv_at hl 0 rfl) ?_
                      refine va_get (D := D) (ci := 4) (v := .int 0) (C := RX4) (T := TX4) (N := 25) hx hb hts iw_X4_piece_4 hown hK hP 0 rfl rfl 0 (by decide) (hts _ wd_X4_piece_1) (fun _ h9 => h9) rfl dX4_piece_138 ?_
                      refine lv_aload_n hx hb dX4_piece_141 rfl (lv_at hl 0 rfl) ?_
                      refine va_get (D := D) (ci := 4) (v := .int 0) (C := RX4) (T := TX4) (N := 25) hx hb hts iw_X4_piece_4 hown hK hP 0 rfl rfl 0 (by decide) (hts _ wd_X4_piece_1) (fun _ h9 => h9) rfl dX4_piece_142 ?_
                      refine va_iast hx hb hK hP hD hS 7 0 rfl rfl (by unfold vp_in; decide) dX4_piece_145 (fun H locs hP hD hS => ?_)
                      have hP : va_P D vwCl [(y0, .inr (4, [.int 0, .int 0, .int 0, .int 0, .int 100, .int 0, .int 500, .int 300, .ref m_kind, .ref m_floor, .ref m_volume, .ref m_size, .ref m_faces, .ref m_when, .ref m_ahead, .ref m_order, .ref m_tried, .ref m_chosen, .ref m_forms, .ref m_warmth, .ref m_degrees, .ref m_thousandths, .ref m_longest, .long 0, .long 0])), (m_kind, .inl (cI, 10, .inl (upd u_kind 0 xk))), (m_floor, .inl (cI, 10, .inl (upd u_floor 0 xf))), (m_volume, .inl (cI, 10, .inl (upd u_volume 0 xv))), (m_size, .inl (cI, 10, .inl (upd u_size 0 xs))), (m_faces, .inl (cI, 10, .inl (upd u_faces 0 xn))), (m_when, .inl (cI, 10, .inl (upd u_when 0 (-1)))), (m_order, .inl (cI, 10, .inl (upd u_order 0 0)))] H := hP
                      have hD : va_D A [(y0, .inr (4, [.int 0, .int 0, .int 0, .int 0, .int 100, .int 0, .int 500, .int 300, .ref m_kind, .ref m_floor, .ref m_volume, .ref m_size, .ref m_faces, .ref m_when, .ref m_ahead, .ref m_order, .ref m_tried, .ref m_chosen, .ref m_forms, .ref m_warmth, .ref m_degrees, .ref m_thousandths, .ref m_longest, .long 0, .long 0])), (m_kind, .inl (cI, 10, .inl (upd u_kind 0 xk))), (m_floor, .inl (cI, 10, .inl (upd u_floor 0 xf))), (m_volume, .inl (cI, 10, .inl (upd u_volume 0 xv))), (m_size, .inl (cI, 10, .inl (upd u_size 0 xs))), (m_faces, .inl (cI, 10, .inl (upd u_faces 0 xn))), (m_when, .inl (cI, 10, .inl (upd u_when 0 (-1)))), (m_order, .inl (cI, 10, .inl (upd u_order 0 0)))] := hD
                      refine lv_aload_n hx hb dX4_piece_146 rfl (lv_at hl 0 rfl) ?_
                      refine lv_dup hx hb dX4_piece_147 rfl ?_
                      refine va_get (D := D) (ci := 4) (v := .int 0) (C := RX4) (T := TX4) (N := 25) hx hb hts iw_X4_piece_4 hown hK hP 0 rfl rfl 0 (by decide) (hts _ wd_X4_piece_1) (fun _ h9 => h9) rfl dX4_piece_148 ?_
                      refine lv_dup_x1 hx hb dX4_piece_151 rfl rfl ?_
                      refine lv_iconst (v := 1) hx hb dX4_piece_152 (by decide) ?_
                      refine lv_iadd hx hb dX4_piece_153 ?_
                      refine lv_topi (fun v_12 ev_12 => ?_)
                      refine va_put (D := D) (ci := 4) (v := .int v_12) (ty := .int) (C := RX4) (T := TX4) (N := 25) hx hb hts iw_X4_piece_4 tyX4 tyX4_ok nmX4 hown hK hP hD hS 0 rfl rfl 0 (by decide) (hts _ wd_X4_piece_1) (fun _ h9 => h9) rfl (by decide +kernel) rfl rfl (Nat.le_of_ble_eq_true rfl) dX4_piece_154 (fun H locs hP hD hS => ?_)
                      have hP : va_P D vwCl [(y0, .inr (4, [.int v_12, .int 0, .int 0, .int 0, .int 100, .int 0, .int 500, .int 300, .ref m_kind, .ref m_floor, .ref m_volume, .ref m_size, .ref m_faces, .ref m_when, .ref m_ahead, .ref m_order, .ref m_tried, .ref m_chosen, .ref m_forms, .ref m_warmth, .ref m_degrees, .ref m_thousandths, .ref m_longest, .long 0, .long 0])), (m_kind, .inl (cI, 10, .inl (upd u_kind 0 xk))), (m_floor, .inl (cI, 10, .inl (upd u_floor 0 xf))), (m_volume, .inl (cI, 10, .inl (upd u_volume 0 xv))), (m_size, .inl (cI, 10, .inl (upd u_size 0 xs))), (m_faces, .inl (cI, 10, .inl (upd u_faces 0 xn))), (m_when, .inl (cI, 10, .inl (upd u_when 0 (-1)))), (m_order, .inl (cI, 10, .inl (upd u_order 0 0)))] H := hP
                      have hD : va_D A [(y0, .inr (4, [.int v_12, .int 0, .int 0, .int 0, .int 100, .int 0, .int 500, .int 300, .ref m_kind, .ref m_floor, .ref m_volume, .ref m_size, .ref m_faces, .ref m_when, .ref m_ahead, .ref m_order, .ref m_tried, .ref m_chosen, .ref m_forms, .ref m_warmth, .ref m_degrees, .ref m_thousandths, .ref m_longest, .long 0, .long 0])), (m_kind, .inl (cI, 10, .inl (upd u_kind 0 xk))), (m_floor, .inl (cI, 10, .inl (upd u_floor 0 xf))), (m_volume, .inl (cI, 10, .inl (upd u_volume 0 xv))), (m_size, .inl (cI, 10, .inl (upd u_size 0 xs))), (m_faces, .inl (cI, 10, .inl (upd u_faces 0 xn))), (m_when, .inl (cI, 10, .inl (upd u_when 0 (-1)))), (m_order, .inl (cI, 10, .inl (upd u_order 0 0)))] := hD
                      refine W.widen (k := 0) (n := 0) (Nat.le_of_ble_eq_true rfl) (Nat.le_of_ble_eq_true rfl) ?_
                      exact fi_i (v_12, upd u_kind 0 xk, upd u_floor 0 xf, upd u_volume 0 xv, upd u_size 0 xs, upd u_faces 0 xn, upd u_when 0 (-1), upd u_order 0 0) hx hb hr hlocks hK (hP.sub [0, 1, 2, 3, 4, 5, 6, 7] rfl) (hD.sub [0, 1, 2, 3, 4, 5, 6, 7] (by decide) rfl) hS (pf_X4_piece_9 xk xf xv xs xn v_12 c_1 c_2 c_3 c_4 c_5 c_6 c_7 c_8 c_9 c_10 ev_12) dX4_piece_157
                    · refine lv_bipush (v := (-2)) hx hb dX4_piece_56 (by decide) ?_
                      refine W.widen (k := 0) (n := 0) (Nat.le_of_ble_eq_true rfl) (Nat.le_of_ble_eq_true rfl) ?_
                      exact fi_i (0, u_kind, u_floor, u_volume, u_size, u_faces, u_when, u_order) hx hb hr hlocks hK (hP.sub [0, 1, 2, 3, 4, 5, 6, 7] rfl) (hD.sub [0, 1, 2, 3, 4, 5, 6, 7] (by decide) rfl) hS (pf_X4_piece_10 xk xf xv xs xn c_1 c_2 c_3 c_4 c_5 c_6 c_7 c_8 c_9 c_10) dX4_piece_58
            · refine lv_iconst (v := (-1)) hx hb dX4_piece_29 (by decide) ?_
              refine W.widen (k := 0) (n := 0) (Nat.le_of_ble_eq_true rfl) (Nat.le_of_ble_eq_true rfl) ?_
              exact fi_i (0, u_kind, u_floor, u_volume, u_size, u_faces, u_when, u_order) hx hb hr hlocks hK (hP.sub [0, 1, 2, 3, 4, 5, 6, 7] rfl) (hD.sub [0, 1, 2, 3, 4, 5, 6, 7] (by decide) rfl) hS (pf_X4_piece_11 xk xf xv xs xn c_1 c_2 c_3 c_4 c_5 c_6) dX4_piece_30

set_option maxHeartbeats 1000000 in
theorem pf_X4_ahead_1 (r_1 : Int32) (w_2 : r_1 = 0) (c_4 : ¬ r_1 = 0) : False := by
  grind
set_option maxHeartbeats 1000000 in
theorem pf_X4_ahead_2 (r_1 : Int32) (w_2 : r_1 = 0) (c_4 : r_1 = 0) : (-1 : Int32) = -1 := by
  grind
set_option maxHeartbeats 4000000 in
set_option maxRecDepth 100000 in
theorem c_X4_ahead (l : Launch) (D : va_G) (cI : ClassId) (sz : Nat) (y0 : Nat) (m_kind : Nat) (m_floor : Nat) (m_volume : Nat) (m_size : Nat) (m_faces : Nat) (m_when : Nat) (m_ahead : Nat) (m_order : Nat) (m_tried : Nat) (m_chosen : Nat) (m_forms : Nat) (m_warmth : Nat) (m_degrees : Nat) (m_thousandths : Nat) (m_longest : Nat) (a : Int32) (b1 : Int32) (dy : Int32) : CtI l yX4_ahead wsX4_ahead 1 21 0 0 [.ref y0, .int a, .int b1, .int dy] D [(cI, .int)] [(y0, .inr (4, [.int 0, .int 0, .int 0, .int 0, .int 100, .int 0, .int 500, .int 300, .ref m_kind, .ref m_floor, .ref m_volume, .ref m_size, .ref m_faces, .ref m_when, .ref m_ahead, .ref m_order, .ref m_tried, .ref m_chosen, .ref m_forms, .ref m_warmth, .ref m_degrees, .ref m_thousandths, .ref m_longest, .long 0, .long 0]))] sz (fun (r : Int32) (u : Unit) => r = -1) (fun (u : Unit) => [(y0, .inr (4, [.int 0, .int 0, .int 0, .int 0, .int 100, .int 0, .int 500, .int 300, .ref m_kind, .ref m_floor, .ref m_volume, .ref m_size, .ref m_faces, .ref m_when, .ref m_ahead, .ref m_order, .ref m_tried, .ref m_chosen, .ref m_forms, .ref m_warmth, .ref m_degrees, .ref m_thousandths, .ref m_longest, .long 0, .long 0]))]) := by
  refine Met.ofW (cc := cX4_ahead) (maxL := 5) (ret := (some .int)) (by decide) rfl ?_
  intro p e s m args below meth c s₁ B hml hv
  obtain ⟨rfl, hsz, hP, hK, hD0, hN⟩ := hv
  have hx := B.exec
  have hb := B.bytes
  have hr := B.returns
  have hts := atoms_spec (ws := wsX4_ahead) B.pre
  have hown : s.vm.findClass RX4 = some m.cls := findClass_of_methodNamed B.named
  have hlocks := B.notSynchronized
  subst hsz
  have hD := hD0.self (sz := s.heap.size)
  generalize hAe : va_A [(y0, .inr (4, [.int 0, .int 0, .int 0, .int 0, .int 100, .int 0, .int 500, .int 300, .ref m_kind, .ref m_floor, .ref m_volume, .ref m_size, .ref m_faces, .ref m_when, .ref m_ahead, .ref m_order, .ref m_tried, .ref m_chosen, .ref m_forms, .ref m_warmth, .ref m_degrees, .ref m_thousandths, .ref m_longest, .long 0, .long 0]))] s.heap.size = A at hD ⊢
  have hA : ∀ q : Nat, s.heap.size ≤ q → A q := fun q h => by rw [← hAe]; exact Or.inr h
  have hS : va_S A s.heap s.heap [] := va_S.rf
  have hl := lv_entry ([.ref y0, .int a, .int b1, .int dy]) (n := 5) (Nat.le_of_ble_eq_true rfl)
  rw [lg_entry_eq]
  generalize (lg_sl ([.ref y0, .int a, .int b1, .int dy]) ++ List.replicate (5 - (lg_sl ([.ref y0, .int a, .int b1, .int dy])).length) Slot.unset).toArray = ls at hl ⊢
  have hl : lv_has ls 5 [(0, .ref y0), (1, .int a), (2, .int b1), (3, .int dy)] := hl
  have hP0 := hP
  refine lv_aload_n hx hb dX4_ahead_0 rfl (lv_at hl 0 rfl) ?_
  refine lv_iload_n hx hb dX4_ahead_1 rfl (lv_at hl 1 rfl) ?_
  refine cc_i (wc := [(y0, .inr (4, [.int 0, .int 0, .int 0, .int 0, .int 100, .int 0, .int 500, .int 300, .ref m_kind, .ref m_floor, .ref m_volume, .ref m_size, .ref m_faces, .ref m_when, .ref m_ahead, .ref m_order, .ref m_tried, .ref m_chosen, .ref m_forms, .ref m_warmth, .ref m_degrees, .ref m_thousandths, .ref m_longest, .long 0, .long 0]))]) (wr := []) (va_runV (As := [.int a]) (rest := []) ⟨hx, hb, hml, hown, hts⟩ (c_X4_isPiece_0 l D cI s.heap.size y0 m_kind m_floor m_volume m_size m_faces m_when m_ahead m_order m_tried m_chosen m_forms m_warmth m_degrees m_thousandths m_longest a ) (cwV 1 hts gX4_ahead_X4_isPiece rfl rfl rfl (by decide +kernel) ⟨Nat.le_of_ble_eq_true rfl, Nat.le_of_ble_eq_true rfl⟩) (preV (wc := [(y0, .inr (4, [.int 0, .int 0, .int 0, .int 0, .int 100, .int 0, .int 500, .int 300, .ref m_kind, .ref m_floor, .ref m_volume, .ref m_size, .ref m_faces, .ref m_when, .ref m_ahead, .ref m_order, .ref m_tried, .ref m_chosen, .ref m_forms, .ref m_warmth, .ref m_degrees, .ref m_thousandths, .ref m_longest, .long 0, .long 0]))]) (ci := 4) (q0 := 0) hK hP hD hN [0] rfl (by decide) rfl rfl) rfl rfl hl.1 rfl (lv_room (Nat.le_of_ble_eq_true rfl)) dX4_ahead_2 ⟨Nat.le_of_ble_eq_true rfl, Nat.le_of_ble_eq_true rfl⟩) hP hD hS hA [0] [] rfl rfl (by decide) (by decide) (fun r_1 u H locs w_2 hP hD hS => ?_)
  have hP : va_P D vwCl [(y0, .inr (4, [.int 0, .int 0, .int 0, .int 0, .int 100, .int 0, .int 500, .int 300, .ref m_kind, .ref m_floor, .ref m_volume, .ref m_size, .ref m_faces, .ref m_when, .ref m_ahead, .ref m_order, .ref m_tried, .ref m_chosen, .ref m_forms, .ref m_warmth, .ref m_degrees, .ref m_thousandths, .ref m_longest, .long 0, .long 0]))] H := hP
  have hD : va_D A [(y0, .inr (4, [.int 0, .int 0, .int 0, .int 0, .int 100, .int 0, .int 500, .int 300, .ref m_kind, .ref m_floor, .ref m_volume, .ref m_size, .ref m_faces, .ref m_when, .ref m_ahead, .ref m_order, .ref m_tried, .ref m_chosen, .ref m_forms, .ref m_warmth, .ref m_degrees, .ref m_thousandths, .ref m_longest, .long 0, .long 0]))] := hD
  have w_2 : r_1 = 0 := w_2
  refine lv_if_eq (tgt := 16) hx hb dX4_ahead_5 (by decide) (fun c_4 => ?_) (fun c_4 => absurd (pf_X4_ahead_1 r_1 w_2 c_4) id)
  refine lv_iconst (v := (-1)) hx hb dX4_ahead_16 (by decide) ?_
  refine W.widen (k := 0) (n := 0) (Nat.le_of_ble_eq_true rfl) (Nat.le_of_ble_eq_true rfl) ?_
  exact fi_i () hx hb hr hlocks hK (hP.sub [0] rfl) (hD.sub [0] (by decide) rfl) hS (pf_X4_ahead_2 r_1 w_2 c_4) dX4_ahead_17

theorem iw_X4_form_4 : ∀ w ∈ wsX40, w ∈ wsX4_form := fun w h => (List.mem_cons_of_mem _ (List.mem_append_right _ h))
theorem wd_X4_form_1 : (.fieldLink RX4 52 "PourPlanModel" "forms" "[I" : Cond) ∈ wsX4_form := List.mem_of_getElem? (i := 1) rfl
set_option maxHeartbeats 1000000 in
theorem pf_X4_form_1 (u_forms : Nat → Int32) (s1 : Int32) (n : Int32) (hf : ∀ j, j < 3 → u_forms j = 10) (c_1 : s1 < 0) : (-1 : Int32) = an_form s1 n := by
  first
  | (grind [an_form])
  | (have h3 : vp_in s1 3 := vi_in (M := 3) rfl (by grind) (by grind)
     have h4 := hf _ (cl_lt h3)
     grind [an_form])
set_option maxHeartbeats 1000000 in
theorem pf_X4_form_2 (u_forms : Nat → Int32) (s1 : Int32) (n : Int32) (hf : ∀ j, j < 3 → u_forms j = 10) (c_1 : ¬ s1 < 0) (c_2 : s1 ≤ 2) (c_3 : n < 0) : (-2 : Int32) = an_form s1 n := by
  first
  | (grind [an_form])
  | (have h3 : vp_in s1 3 := vi_in (M := 3) rfl (by grind) (by grind)
     have h4 := hf _ (cl_lt h3)
     grind [an_form])
set_option maxHeartbeats 1000000 in
theorem pf_X4_form_3 (u_forms : Nat → Int32) (s1 : Int32) (n : Int32) (hf : ∀ j, j < 3 → u_forms j = 10) (c_1 : ¬ s1 < 0) (c_2 : s1 ≤ 2) (c_3 : ¬ n < 0) (c_4 : n ≤ 50) : vp_in s1 3 := by
  exact vi_in (M := 3) rfl (by grind [an_form]) (by grind [an_form])
set_option maxHeartbeats 1000000 in
theorem pf_X4_form_4 (u_forms : Nat → Int32) (s1 : Int32) (n : Int32) (v_5 : Int32) (hf : ∀ j, j < 3 → u_forms j = 10) (c_1 : ¬ s1 < 0) (c_2 : s1 ≤ 2) (c_3 : ¬ n < 0) (c_4 : n ≤ 50) (ev_5 : v_5 = u_forms s1.toNatClampNeg) : vp_in s1 3 := by
  exact vi_in (M := 3) rfl (by grind [an_form]) (by grind [an_form])
set_option maxHeartbeats 1000000 in
theorem pf_X4_form_5 (u_forms : Nat → Int32) (s1 : Int32) (n : Int32) (v_5 : Int32) (hf : ∀ j, j < 3 → u_forms j = 10) (c_1 : ¬ s1 < 0) (c_2 : s1 ≤ 2) (c_3 : ¬ n < 0) (c_4 : n ≤ 50) (ev_5 : v_5 = u_forms s1.toNatClampNeg) : v_5 = an_form s1 n := by
  first
  | (grind [an_form])
  | (have h3 : vp_in s1 3 := vi_in (M := 3) rfl (by grind) (by grind)
     have h4 := hf _ (cl_lt h3)
     grind [an_form])
set_option maxHeartbeats 1000000 in
theorem pf_X4_form_6 (u_forms : Nat → Int32) (s1 : Int32) (n : Int32) (hf : ∀ j, j < 3 → u_forms j = 10) (c_1 : ¬ s1 < 0) (c_2 : s1 ≤ 2) (c_3 : ¬ n < 0) (c_4 : ¬ n ≤ 50) : (-2 : Int32) = an_form s1 n := by
  first
  | (grind [an_form])
  | (have h3 : vp_in s1 3 := vi_in (M := 3) rfl (by grind) (by grind)
     have h4 := hf _ (cl_lt h3)
     grind [an_form])
set_option maxHeartbeats 1000000 in
theorem pf_X4_form_7 (u_forms : Nat → Int32) (s1 : Int32) (n : Int32) (hf : ∀ j, j < 3 → u_forms j = 10) (c_1 : ¬ s1 < 0) (c_2 : ¬ s1 ≤ 2) : (-1 : Int32) = an_form s1 n := by
  first
  | (grind [an_form])
  | (have h3 : vp_in s1 3 := vi_in (M := 3) rfl (by grind) (by grind)
     have h4 := hf _ (cl_lt h3)
     grind [an_form])
set_option maxHeartbeats 4000000 in
set_option maxRecDepth 100000 in
theorem c_X4_form (l : Launch) (D : va_G) (cI : ClassId) (sz : Nat) (y0 : Nat) (m_forms : Nat) (m_kind : Nat) (m_floor : Nat) (m_volume : Nat) (m_size : Nat) (m_faces : Nat) (m_when : Nat) (m_ahead : Nat) (m_order : Nat) (m_tried : Nat) (m_chosen : Nat) (m_warmth : Nat) (m_degrees : Nat) (m_thousandths : Nat) (m_longest : Nat) (u_forms : Nat → Int32) (s1 : Int32) (n : Int32) (hf : ∀ j, j < 3 → u_forms j = 10) : CtI l yX4_form wsX4_form 0 0 0 0 [.ref y0, .int s1, .int n] D [(cI, .int)] [(y0, .inr (4, [.int 0, .int 0, .int 0, .int 0, .int 100, .int 0, .int 500, .int 300, .ref m_kind, .ref m_floor, .ref m_volume, .ref m_size, .ref m_faces, .ref m_when, .ref m_ahead, .ref m_order, .ref m_tried, .ref m_chosen, .ref m_forms, .ref m_warmth, .ref m_degrees, .ref m_thousandths, .ref m_longest, .long 0, .long 0])), (m_forms, .inl (cI, 3, .inl u_forms))] sz (fun (r : Int32) (u : (Nat → Int32)) => r = an_form s1 n) (fun (u : (Nat → Int32)) => [(y0, .inr (4, [.int 0, .int 0, .int 0, .int 0, .int 100, .int 0, .int 500, .int 300, .ref m_kind, .ref m_floor, .ref m_volume, .ref m_size, .ref m_faces, .ref m_when, .ref m_ahead, .ref m_order, .ref m_tried, .ref m_chosen, .ref m_forms, .ref m_warmth, .ref m_degrees, .ref m_thousandths, .ref m_longest, .long 0, .long 0])), (m_forms, .inl (cI, 3, .inl u))]) := by
  refine Met.ofW (cc := cX4_form) (maxL := 4) (ret := (some .int)) (by decide) rfl ?_
  intro p e s m args below meth c s₁ B hml hv
  obtain ⟨rfl, hsz, hP, hK, hD0, hN⟩ := hv
  have hx := B.exec
  have hb := B.bytes
  have hr := B.returns
  have hts := atoms_spec (ws := wsX4_form) B.pre
  have hown : s.vm.findClass RX4 = some m.cls := findClass_of_methodNamed B.named
  have hlocks := B.notSynchronized
  subst hsz
  have hD := hD0.self (sz := s.heap.size)
  generalize hAe : va_A [(y0, .inr (4, [.int 0, .int 0, .int 0, .int 0, .int 100, .int 0, .int 500, .int 300, .ref m_kind, .ref m_floor, .ref m_volume, .ref m_size, .ref m_faces, .ref m_when, .ref m_ahead, .ref m_order, .ref m_tried, .ref m_chosen, .ref m_forms, .ref m_warmth, .ref m_degrees, .ref m_thousandths, .ref m_longest, .long 0, .long 0])), (m_forms, .inl (cI, 3, .inl u_forms))] s.heap.size = A at hD ⊢
  have hA : ∀ q : Nat, s.heap.size ≤ q → A q := fun q h => by rw [← hAe]; exact Or.inr h
  have hS : va_S A s.heap s.heap [] := va_S.rf
  have hl := lv_entry ([.ref y0, .int s1, .int n]) (n := 4) (Nat.le_of_ble_eq_true rfl)
  rw [lg_entry_eq]
  generalize (lg_sl ([.ref y0, .int s1, .int n]) ++ List.replicate (4 - (lg_sl ([.ref y0, .int s1, .int n])).length) Slot.unset).toArray = ls at hl ⊢
  have hl : lv_has ls 4 [(0, .ref y0), (1, .int s1), (2, .int n)] := hl
  have hP0 := hP
  refine lv_iload_n hx hb dX4_form_0 rfl (lv_at hl 1 rfl) ?_
  refine lv_if_lt (tgt := 9) hx hb dX4_form_1 (by decide) (fun c_1 => ?_) (fun c_1 => ?_)
  · refine lv_iconst (v := (-1)) hx hb dX4_form_9 (by decide) ?_
    refine W.widen (k := 0) (n := 0) (Nat.le_of_ble_eq_true rfl) (Nat.le_of_ble_eq_true rfl) ?_
    exact fi_i u_forms hx hb hr hlocks hK (hP.sub [0, 1] rfl) (hD.sub [0, 1] (by decide) rfl) hS (pf_X4_form_1 u_forms s1 n hf c_1) dX4_form_10
  · refine lv_iload_n hx hb dX4_form_4 rfl (lv_at hl 1 rfl) ?_
    refine lv_iconst (v := 2) hx hb dX4_form_5 (by decide) ?_
    refine lv_icmp_le (tgt := 11) hx hb dX4_form_6 (by decide) (fun c_2 => ?_) (fun c_2 => ?_)
    · refine lv_iload_n hx hb dX4_form_11 rfl (lv_at hl 2 rfl) ?_
      refine lv_if_lt (tgt := 21) hx hb dX4_form_12 (by decide) (fun c_3 => ?_) (fun c_3 => ?_)
      · refine lv_bipush (v := (-2)) hx hb dX4_form_21 (by decide) ?_
        refine W.widen (k := 0) (n := 0) (Nat.le_of_ble_eq_true rfl) (Nat.le_of_ble_eq_true rfl) ?_
        exact fi_i u_forms hx hb hr hlocks hK (hP.sub [0, 1] rfl) (hD.sub [0, 1] (by decide) rfl) hS (pf_X4_form_2 u_forms s1 n hf c_1 c_2 c_3) dX4_form_23
      · refine lv_iload_n hx hb dX4_form_15 rfl (lv_at hl 2 rfl) ?_
        refine lv_bipush (v := 50) hx hb dX4_form_16 (by decide) ?_
        refine lv_icmp_le (tgt := 24) hx hb dX4_form_18 (by decide) (fun c_4 => ?_) (fun c_4 => ?_)
        · refine lv_aload_n hx hb dX4_form_24 rfl (lv_at hl 0 rfl) ?_
          refine va_get (D := D) (ci := 4) (v := .ref m_forms) (C := RX4) (T := TX4) (N := 25) hx hb hts iw_X4_form_4 hown hK hP 0 rfl rfl 18 (by decide) (hts _ wd_X4_form_1) (fun _ h9 => h9) rfl dX4_form_25 ?_
          refine lv_iload_n hx hb dX4_form_28 rfl (lv_at hl 1 rfl) ?_
          refine va_iald hx hb hK hP 1 0 rfl rfl (pf_X4_form_3 u_forms s1 n hf c_1 c_2 c_3 c_4) dX4_form_29 ?_
          refine lv_topi (fun v_5 ev_5 => ?_)
          refine lv_istore_n (lv' := [(3, .int v_5), (0, .ref y0), (1, .int s1), (2, .int n)]) hx hb dX4_form_30 rfl hl (by decide) rfl (fun ls hl => ?_)
          refine lv_aload_n hx hb dX4_form_31 rfl (lv_at hl 1 rfl) ?_
          refine va_get (D := D) (ci := 4) (v := .ref m_forms) (C := RX4) (T := TX4) (N := 25) hx hb hts iw_X4_form_4 hown hK hP 0 rfl rfl 18 (by decide) (hts _ wd_X4_form_1) (fun _ h9 => h9) rfl dX4_form_32 ?_
          refine lv_iload_n hx hb dX4_form_35 rfl (lv_at hl 2 rfl) ?_
          refine lv_iload_n hx hb dX4_form_36 rfl (lv_at hl 3 rfl) ?_
          refine va_iast hx hb hK hP hD hS 1 0 rfl rfl (pf_X4_form_4 u_forms s1 n v_5 hf c_1 c_2 c_3 c_4 ev_5) dX4_form_37 (fun H locs hP hD hS => ?_)
          have hP : va_P D vwCl [(y0, .inr (4, [.int 0, .int 0, .int 0, .int 0, .int 100, .int 0, .int 500, .int 300, .ref m_kind, .ref m_floor, .ref m_volume, .ref m_size, .ref m_faces, .ref m_when, .ref m_ahead, .ref m_order, .ref m_tried, .ref m_chosen, .ref m_forms, .ref m_warmth, .ref m_degrees, .ref m_thousandths, .ref m_longest, .long 0, .long 0])), (m_forms, .inl (cI, 3, .inl (upd u_forms s1.toNatClampNeg n)))] H := hP
          have hD : va_D A [(y0, .inr (4, [.int 0, .int 0, .int 0, .int 0, .int 100, .int 0, .int 500, .int 300, .ref m_kind, .ref m_floor, .ref m_volume, .ref m_size, .ref m_faces, .ref m_when, .ref m_ahead, .ref m_order, .ref m_tried, .ref m_chosen, .ref m_forms, .ref m_warmth, .ref m_degrees, .ref m_thousandths, .ref m_longest, .long 0, .long 0])), (m_forms, .inl (cI, 3, .inl (upd u_forms s1.toNatClampNeg n)))] := hD
          refine lv_iload_n hx hb dX4_form_38 rfl (lv_at hl 0 rfl) ?_
          refine W.widen (k := 0) (n := 0) (Nat.le_of_ble_eq_true rfl) (Nat.le_of_ble_eq_true rfl) ?_
          exact fi_i (upd u_forms s1.toNatClampNeg n) hx hb hr hlocks hK (hP.sub [0, 1] rfl) (hD.sub [0, 1] (by decide) rfl) hS (pf_X4_form_5 u_forms s1 n v_5 hf c_1 c_2 c_3 c_4 ev_5) dX4_form_39
        · refine lv_bipush (v := (-2)) hx hb dX4_form_21 (by decide) ?_
          refine W.widen (k := 0) (n := 0) (Nat.le_of_ble_eq_true rfl) (Nat.le_of_ble_eq_true rfl) ?_
          exact fi_i u_forms hx hb hr hlocks hK (hP.sub [0, 1] rfl) (hD.sub [0, 1] (by decide) rfl) hS (pf_X4_form_6 u_forms s1 n hf c_1 c_2 c_3 c_4) dX4_form_23
    · refine lv_iconst (v := (-1)) hx hb dX4_form_9 (by decide) ?_
      refine W.widen (k := 0) (n := 0) (Nat.le_of_ble_eq_true rfl) (Nat.le_of_ble_eq_true rfl) ?_
      exact fi_i u_forms hx hb hr hlocks hK (hP.sub [0, 1] rfl) (hD.sub [0, 1] (by decide) rfl) hS (pf_X4_form_7 u_forms s1 n hf c_1 c_2) dX4_form_10

theorem iw_X4_gang_4 : ∀ w ∈ wsX40, w ∈ wsX4_gang := fun w h => (List.mem_cons_of_mem _ (List.mem_append_right _ h))
theorem wd_X4_gang_1 : (.fieldLink RX4 9 "PourPlanModel" "gang" "I" : Cond) ∈ wsX4_gang := List.mem_of_getElem? (i := 1) rfl
set_option maxHeartbeats 1000000 in
theorem pf_X4_gang_1 (n : Int32) (c_1 : n < 1) : (-2 : Int32) = an_gang n := by
  grind [an_gang]
set_option maxHeartbeats 1000000 in
theorem pf_X4_gang_2 (n : Int32) (c_1 : ¬ n < 1) (c_2 : n ≤ 1000) : (100 : Int32) = an_gang n := by
  grind [an_gang]
set_option maxHeartbeats 1000000 in
theorem pf_X4_gang_3 (n : Int32) (c_1 : ¬ n < 1) (c_2 : ¬ n ≤ 1000) : (-2 : Int32) = an_gang n := by
  grind [an_gang]
set_option maxHeartbeats 4000000 in
set_option maxRecDepth 100000 in
theorem c_X4_gang (l : Launch) (D : va_G) (cI : ClassId) (sz : Nat) (y0 : Nat) (m_kind : Nat) (m_floor : Nat) (m_volume : Nat) (m_size : Nat) (m_faces : Nat) (m_when : Nat) (m_ahead : Nat) (m_order : Nat) (m_tried : Nat) (m_chosen : Nat) (m_forms : Nat) (m_warmth : Nat) (m_degrees : Nat) (m_thousandths : Nat) (m_longest : Nat) (n : Int32) : CtI l yX4_gang wsX4_gang 0 0 0 0 [.ref y0, .int n] D [(cI, .int)] [(y0, .inr (4, [.int 0, .int 0, .int 0, .int 0, .int 100, .int 0, .int 500, .int 300, .ref m_kind, .ref m_floor, .ref m_volume, .ref m_size, .ref m_faces, .ref m_when, .ref m_ahead, .ref m_order, .ref m_tried, .ref m_chosen, .ref m_forms, .ref m_warmth, .ref m_degrees, .ref m_thousandths, .ref m_longest, .long 0, .long 0]))] sz (fun (r : Int32) (u : Int32) => r = an_gang n) (fun (u : Int32) => [(y0, .inr (4, [.int 0, .int 0, .int 0, .int 0, .int u, .int 0, .int 500, .int 300, .ref m_kind, .ref m_floor, .ref m_volume, .ref m_size, .ref m_faces, .ref m_when, .ref m_ahead, .ref m_order, .ref m_tried, .ref m_chosen, .ref m_forms, .ref m_warmth, .ref m_degrees, .ref m_thousandths, .ref m_longest, .long 0, .long 0]))]) := by
  refine Met.ofW (cc := cX4_gang) (maxL := 3) (ret := (some .int)) (by decide) rfl ?_
  intro p e s m args below meth c s₁ B hml hv
  obtain ⟨rfl, hsz, hP, hK, hD0, hN⟩ := hv
  have hx := B.exec
  have hb := B.bytes
  have hr := B.returns
  have hts := atoms_spec (ws := wsX4_gang) B.pre
  have hown : s.vm.findClass RX4 = some m.cls := findClass_of_methodNamed B.named
  have hlocks := B.notSynchronized
  subst hsz
  have hD := hD0.self (sz := s.heap.size)
  generalize hAe : va_A [(y0, .inr (4, [.int 0, .int 0, .int 0, .int 0, .int 100, .int 0, .int 500, .int 300, .ref m_kind, .ref m_floor, .ref m_volume, .ref m_size, .ref m_faces, .ref m_when, .ref m_ahead, .ref m_order, .ref m_tried, .ref m_chosen, .ref m_forms, .ref m_warmth, .ref m_degrees, .ref m_thousandths, .ref m_longest, .long 0, .long 0]))] s.heap.size = A at hD ⊢
  have hA : ∀ q : Nat, s.heap.size ≤ q → A q := fun q h => by rw [← hAe]; exact Or.inr h
  have hS : va_S A s.heap s.heap [] := va_S.rf
  have hl := lv_entry ([.ref y0, .int n]) (n := 3) (Nat.le_of_ble_eq_true rfl)
  rw [lg_entry_eq]
  generalize (lg_sl ([.ref y0, .int n]) ++ List.replicate (3 - (lg_sl ([.ref y0, .int n])).length) Slot.unset).toArray = ls at hl ⊢
  have hl : lv_has ls 3 [(0, .ref y0), (1, .int n)] := hl
  have hP0 := hP
  refine lv_iload_n hx hb dX4_gang_0 rfl (lv_at hl 1 rfl) ?_
  refine lv_iconst (v := 1) hx hb dX4_gang_1 (by decide) ?_
  refine lv_icmp_lt (tgt := 12) hx hb dX4_gang_2 (by decide) (fun c_1 => ?_) (fun c_1 => ?_)
  · refine lv_bipush (v := (-2)) hx hb dX4_gang_12 (by decide) ?_
    refine W.widen (k := 0) (n := 0) (Nat.le_of_ble_eq_true rfl) (Nat.le_of_ble_eq_true rfl) ?_
    exact fi_i 100 hx hb hr hlocks hK (hP.sub [0] rfl) (hD.sub [0] (by decide) rfl) hS (pf_X4_gang_1 n c_1) dX4_gang_14
  · refine lv_iload_n hx hb dX4_gang_5 rfl (lv_at hl 1 rfl) ?_
    refine lv_sipush (v := 1000) hx hb dX4_gang_6 (by decide) ?_
    refine lv_icmp_le (tgt := 15) hx hb dX4_gang_9 (by decide) (fun c_2 => ?_) (fun c_2 => ?_)
    · refine lv_aload_n hx hb dX4_gang_15 rfl (lv_at hl 0 rfl) ?_
      refine va_get (D := D) (ci := 4) (v := .int 100) (C := RX4) (T := TX4) (N := 25) hx hb hts iw_X4_gang_4 hown hK hP 0 rfl rfl 4 (by decide) (hts _ wd_X4_gang_1) (fun _ h9 => h9) rfl dX4_gang_16 ?_
      refine lv_istore_n (lv' := [(2, .int 100), (0, .ref y0), (1, .int n)]) hx hb dX4_gang_19 rfl hl (by decide) rfl (fun ls hl => ?_)
      refine lv_aload_n hx hb dX4_gang_20 rfl (lv_at hl 1 rfl) ?_
      refine lv_iload_n hx hb dX4_gang_21 rfl (lv_at hl 2 rfl) ?_
      refine va_put (D := D) (ci := 4) (v := .int n) (ty := .int) (C := RX4) (T := TX4) (N := 25) hx hb hts iw_X4_gang_4 tyX4 tyX4_ok nmX4 hown hK hP hD hS 0 rfl rfl 4 (by decide) (hts _ wd_X4_gang_1) (fun _ h9 => h9) rfl (by decide +kernel) rfl rfl (Nat.le_of_ble_eq_true rfl) dX4_gang_22 (fun H locs hP hD hS => ?_)
      have hP : va_P D vwCl [(y0, .inr (4, [.int 0, .int 0, .int 0, .int 0, .int n, .int 0, .int 500, .int 300, .ref m_kind, .ref m_floor, .ref m_volume, .ref m_size, .ref m_faces, .ref m_when, .ref m_ahead, .ref m_order, .ref m_tried, .ref m_chosen, .ref m_forms, .ref m_warmth, .ref m_degrees, .ref m_thousandths, .ref m_longest, .long 0, .long 0]))] H := hP
      have hD : va_D A [(y0, .inr (4, [.int 0, .int 0, .int 0, .int 0, .int n, .int 0, .int 500, .int 300, .ref m_kind, .ref m_floor, .ref m_volume, .ref m_size, .ref m_faces, .ref m_when, .ref m_ahead, .ref m_order, .ref m_tried, .ref m_chosen, .ref m_forms, .ref m_warmth, .ref m_degrees, .ref m_thousandths, .ref m_longest, .long 0, .long 0]))] := hD
      refine lv_iload_n hx hb dX4_gang_25 rfl (lv_at hl 0 rfl) ?_
      refine W.widen (k := 0) (n := 0) (Nat.le_of_ble_eq_true rfl) (Nat.le_of_ble_eq_true rfl) ?_
      exact fi_i n hx hb hr hlocks hK (hP.sub [0] rfl) (hD.sub [0] (by decide) rfl) hS (pf_X4_gang_2 n c_1 c_2) dX4_gang_26
    · refine lv_bipush (v := (-2)) hx hb dX4_gang_12 (by decide) ?_
      refine W.widen (k := 0) (n := 0) (Nat.le_of_ble_eq_true rfl) (Nat.le_of_ble_eq_true rfl) ?_
      exact fi_i 100 hx hb hr hlocks hK (hP.sub [0] rfl) (hD.sub [0] (by decide) rfl) hS (pf_X4_gang_3 n c_1 c_2) dX4_gang_14

theorem iw_X4_level_4 : ∀ w ∈ wsX40, w ∈ wsX4_level := fun w h => (List.mem_cons_of_mem _ (List.mem_append_right _ h))
theorem wd_X4_level_1 : (.fieldLink RX4 15 "PourPlanModel" "strip" "I" : Cond) ∈ wsX4_level := List.mem_of_getElem? (i := 1) rfl
theorem wd_X4_level_2 : (.fieldLink RX4 18 "PourPlanModel" "bear" "I" : Cond) ∈ wsX4_level := List.mem_of_getElem? (i := 2) rfl
set_option maxHeartbeats 1000000 in
theorem pf_X4_level_1 (w : Int32) (v : Int32) (c_1 : w < 0) : (-1 : Int32) = an_level w v := by
  grind [an_level]
set_option maxHeartbeats 1000000 in
theorem pf_X4_level_2 (w : Int32) (v : Int32) (c_1 : ¬ w < 0) (c_2 : w ≤ 1) (c_3 : v < 0) : (-2 : Int32) = an_level w v := by
  grind [an_level]
set_option maxHeartbeats 1000000 in
theorem pf_X4_level_3 (w : Int32) (v : Int32) (c_1 : ¬ w < 0) (c_2 : w ≤ 1) (c_3 : ¬ v < 0) (c_4 : v ≤ 1000) (c_5 : ¬ w = 0) (c_6 : ¬ w = 0) : (300 : Int32) = an_level w v := by
  grind [an_level]
set_option maxHeartbeats 1000000 in
theorem pf_X4_level_4 (w : Int32) (v : Int32) (c_1 : ¬ w < 0) (c_2 : w ≤ 1) (c_3 : ¬ v < 0) (c_4 : v ≤ 1000) (c_5 : ¬ w = 0) (c_6 : w = 0) : (300 : Int32) = an_level w v := by
  grind [an_level]
set_option maxHeartbeats 1000000 in
theorem pf_X4_level_5 (w : Int32) (v : Int32) (c_1 : ¬ w < 0) (c_2 : w ≤ 1) (c_3 : ¬ v < 0) (c_4 : v ≤ 1000) (c_5 : w = 0) (c_7 : ¬ w = 0) : (500 : Int32) = an_level w v := by
  grind [an_level]
set_option maxHeartbeats 1000000 in
theorem pf_X4_level_6 (w : Int32) (v : Int32) (c_1 : ¬ w < 0) (c_2 : w ≤ 1) (c_3 : ¬ v < 0) (c_4 : v ≤ 1000) (c_5 : w = 0) (c_7 : w = 0) : (500 : Int32) = an_level w v := by
  grind [an_level]
set_option maxHeartbeats 1000000 in
theorem pf_X4_level_7 (w : Int32) (v : Int32) (c_1 : ¬ w < 0) (c_2 : w ≤ 1) (c_3 : ¬ v < 0) (c_4 : ¬ v ≤ 1000) : (-2 : Int32) = an_level w v := by
  grind [an_level]
set_option maxHeartbeats 1000000 in
theorem pf_X4_level_8 (w : Int32) (v : Int32) (c_1 : ¬ w < 0) (c_2 : ¬ w ≤ 1) : (-1 : Int32) = an_level w v := by
  grind [an_level]
set_option maxHeartbeats 4000000 in
set_option maxRecDepth 100000 in
theorem c_X4_level (l : Launch) (D : va_G) (cI : ClassId) (sz : Nat) (y0 : Nat) (m_kind : Nat) (m_floor : Nat) (m_volume : Nat) (m_size : Nat) (m_faces : Nat) (m_when : Nat) (m_ahead : Nat) (m_order : Nat) (m_tried : Nat) (m_chosen : Nat) (m_forms : Nat) (m_warmth : Nat) (m_degrees : Nat) (m_thousandths : Nat) (m_longest : Nat) (w : Int32) (v : Int32) : CtI l yX4_level wsX4_level 0 0 0 0 [.ref y0, .int w, .int v] D [(cI, .int)] [(y0, .inr (4, [.int 0, .int 0, .int 0, .int 0, .int 100, .int 0, .int 500, .int 300, .ref m_kind, .ref m_floor, .ref m_volume, .ref m_size, .ref m_faces, .ref m_when, .ref m_ahead, .ref m_order, .ref m_tried, .ref m_chosen, .ref m_forms, .ref m_warmth, .ref m_degrees, .ref m_thousandths, .ref m_longest, .long 0, .long 0]))] sz (fun (r : Int32) (u : Int32 × Int32) => r = an_level w v) (fun (u : Int32 × Int32) => [(y0, .inr (4, [.int 0, .int 0, .int 0, .int 0, .int 100, .int 0, .int u.1, .int u.2, .ref m_kind, .ref m_floor, .ref m_volume, .ref m_size, .ref m_faces, .ref m_when, .ref m_ahead, .ref m_order, .ref m_tried, .ref m_chosen, .ref m_forms, .ref m_warmth, .ref m_degrees, .ref m_thousandths, .ref m_longest, .long 0, .long 0]))]) := by
  refine Met.ofW (cc := cX4_level) (maxL := 4) (ret := (some .int)) (by decide) rfl ?_
  intro p e s m args below meth c s₁ B hml hv
  obtain ⟨rfl, hsz, hP, hK, hD0, hN⟩ := hv
  have hx := B.exec
  have hb := B.bytes
  have hr := B.returns
  have hts := atoms_spec (ws := wsX4_level) B.pre
  have hown : s.vm.findClass RX4 = some m.cls := findClass_of_methodNamed B.named
  have hlocks := B.notSynchronized
  subst hsz
  have hD := hD0.self (sz := s.heap.size)
  generalize hAe : va_A [(y0, .inr (4, [.int 0, .int 0, .int 0, .int 0, .int 100, .int 0, .int 500, .int 300, .ref m_kind, .ref m_floor, .ref m_volume, .ref m_size, .ref m_faces, .ref m_when, .ref m_ahead, .ref m_order, .ref m_tried, .ref m_chosen, .ref m_forms, .ref m_warmth, .ref m_degrees, .ref m_thousandths, .ref m_longest, .long 0, .long 0]))] s.heap.size = A at hD ⊢
  have hA : ∀ q : Nat, s.heap.size ≤ q → A q := fun q h => by rw [← hAe]; exact Or.inr h
  have hS : va_S A s.heap s.heap [] := va_S.rf
  have hl := lv_entry ([.ref y0, .int w, .int v]) (n := 4) (Nat.le_of_ble_eq_true rfl)
  rw [lg_entry_eq]
  generalize (lg_sl ([.ref y0, .int w, .int v]) ++ List.replicate (4 - (lg_sl ([.ref y0, .int w, .int v])).length) Slot.unset).toArray = ls at hl ⊢
  have hl : lv_has ls 4 [(0, .ref y0), (1, .int w), (2, .int v)] := hl
  have hP0 := hP
  refine lv_iload_n hx hb dX4_level_0 rfl (lv_at hl 1 rfl) ?_
  refine lv_if_lt (tgt := 9) hx hb dX4_level_1 (by decide) (fun c_1 => ?_) (fun c_1 => ?_)
  · refine lv_iconst (v := (-1)) hx hb dX4_level_9 (by decide) ?_
    refine W.widen (k := 0) (n := 0) (Nat.le_of_ble_eq_true rfl) (Nat.le_of_ble_eq_true rfl) ?_
    exact fi_i (500, 300) hx hb hr hlocks hK (hP.sub [0] rfl) (hD.sub [0] (by decide) rfl) hS (pf_X4_level_1 w v c_1) dX4_level_10
  · refine lv_iload_n hx hb dX4_level_4 rfl (lv_at hl 1 rfl) ?_
    refine lv_iconst (v := 1) hx hb dX4_level_5 (by decide) ?_
    refine lv_icmp_le (tgt := 11) hx hb dX4_level_6 (by decide) (fun c_2 => ?_) (fun c_2 => ?_)
    · refine lv_iload_n hx hb dX4_level_11 rfl (lv_at hl 2 rfl) ?_
      refine lv_if_lt (tgt := 22) hx hb dX4_level_12 (by decide) (fun c_3 => ?_) (fun c_3 => ?_)
      · refine lv_bipush (v := (-2)) hx hb dX4_level_22 (by decide) ?_
        refine W.widen (k := 0) (n := 0) (Nat.le_of_ble_eq_true rfl) (Nat.le_of_ble_eq_true rfl) ?_
        exact fi_i (500, 300) hx hb hr hlocks hK (hP.sub [0] rfl) (hD.sub [0] (by decide) rfl) hS (pf_X4_level_2 w v c_1 c_2 c_3) dX4_level_24
      · refine lv_iload_n hx hb dX4_level_15 rfl (lv_at hl 2 rfl) ?_
        refine lv_sipush (v := 1000) hx hb dX4_level_16 (by decide) ?_
        refine lv_icmp_le (tgt := 25) hx hb dX4_level_19 (by decide) (fun c_4 => ?_) (fun c_4 => ?_)
        · refine lv_iload_n hx hb dX4_level_25 rfl (lv_at hl 1 rfl) ?_
          refine lv_if_ne (tgt := 36) hx hb dX4_level_26 (by decide) (fun c_5 => ?_) (fun c_5 => ?_)
          · refine lv_aload_n hx hb dX4_level_36 rfl (lv_at hl 0 rfl) ?_
            refine va_get (D := D) (ci := 4) (v := .int 300) (C := RX4) (T := TX4) (N := 25) hx hb hts iw_X4_level_4 hown hK hP 0 rfl rfl 7 (by decide) (hts _ wd_X4_level_2) (fun _ h9 => h9) rfl dX4_level_37 ?_
            refine lv_istore_n (lv' := [(3, .int 300), (0, .ref y0), (1, .int w), (2, .int v)]) hx hb dX4_level_40 rfl hl (by decide) rfl (fun ls hl => ?_)
            refine lv_iload_n hx hb dX4_level_41 rfl (lv_at hl 2 rfl) ?_
            refine lv_if_ne (tgt := 53) hx hb dX4_level_42 (by decide) (fun c_6 => ?_) (fun c_6 => ?_)
            · refine lv_aload_n hx hb dX4_level_53 rfl (lv_at hl 1 rfl) ?_
              refine lv_iload_n hx hb dX4_level_54 rfl (lv_at hl 3 rfl) ?_
              refine va_put (D := D) (ci := 4) (v := .int v) (ty := .int) (C := RX4) (T := TX4) (N := 25) hx hb hts iw_X4_level_4 tyX4 tyX4_ok nmX4 hown hK hP hD hS 0 rfl rfl 7 (by decide) (hts _ wd_X4_level_2) (fun _ h9 => h9) rfl (by decide +kernel) rfl rfl (Nat.le_of_ble_eq_true rfl) dX4_level_55 (fun H locs hP hD hS => ?_)
              have hP : va_P D vwCl [(y0, .inr (4, [.int 0, .int 0, .int 0, .int 0, .int 100, .int 0, .int 500, .int v, .ref m_kind, .ref m_floor, .ref m_volume, .ref m_size, .ref m_faces, .ref m_when, .ref m_ahead, .ref m_order, .ref m_tried, .ref m_chosen, .ref m_forms, .ref m_warmth, .ref m_degrees, .ref m_thousandths, .ref m_longest, .long 0, .long 0]))] H := hP
              have hD : va_D A [(y0, .inr (4, [.int 0, .int 0, .int 0, .int 0, .int 100, .int 0, .int 500, .int v, .ref m_kind, .ref m_floor, .ref m_volume, .ref m_size, .ref m_faces, .ref m_when, .ref m_ahead, .ref m_order, .ref m_tried, .ref m_chosen, .ref m_forms, .ref m_warmth, .ref m_degrees, .ref m_thousandths, .ref m_longest, .long 0, .long 0]))] := hD
              refine lv_iload_n hx hb dX4_level_58 rfl (lv_at hl 0 rfl) ?_
              refine W.widen (k := 0) (n := 0) (Nat.le_of_ble_eq_true rfl) (Nat.le_of_ble_eq_true rfl) ?_
              exact fi_i (500, v) hx hb hr hlocks hK (hP.sub [0] rfl) (hD.sub [0] (by decide) rfl) hS (pf_X4_level_3 w v c_1 c_2 c_3 c_4 c_5 c_6) dX4_level_59
            · refine lv_aload_n hx hb dX4_level_45 rfl (lv_at hl 1 rfl) ?_
              refine lv_iload_n hx hb dX4_level_46 rfl (lv_at hl 3 rfl) ?_
              refine va_put (D := D) (ci := 4) (v := .int v) (ty := .int) (C := RX4) (T := TX4) (N := 25) hx hb hts iw_X4_level_4 tyX4 tyX4_ok nmX4 hown hK hP hD hS 0 rfl rfl 6 (by decide) (hts _ wd_X4_level_1) (fun _ h9 => h9) rfl (by decide +kernel) rfl rfl (Nat.le_of_ble_eq_true rfl) dX4_level_47 (fun H locs hP hD hS => ?_)
              have hP : va_P D vwCl [(y0, .inr (4, [.int 0, .int 0, .int 0, .int 0, .int 100, .int 0, .int v, .int 300, .ref m_kind, .ref m_floor, .ref m_volume, .ref m_size, .ref m_faces, .ref m_when, .ref m_ahead, .ref m_order, .ref m_tried, .ref m_chosen, .ref m_forms, .ref m_warmth, .ref m_degrees, .ref m_thousandths, .ref m_longest, .long 0, .long 0]))] H := hP
              have hD : va_D A [(y0, .inr (4, [.int 0, .int 0, .int 0, .int 0, .int 100, .int 0, .int v, .int 300, .ref m_kind, .ref m_floor, .ref m_volume, .ref m_size, .ref m_faces, .ref m_when, .ref m_ahead, .ref m_order, .ref m_tried, .ref m_chosen, .ref m_forms, .ref m_warmth, .ref m_degrees, .ref m_thousandths, .ref m_longest, .long 0, .long 0]))] := hD
              refine lv_goto (tgt := 58) hx hb dX4_level_50 (by decide) ?_
              refine lv_iload_n hx hb dX4_level_58 rfl (lv_at hl 0 rfl) ?_
              refine W.widen (k := 0) (n := 0) (Nat.le_of_ble_eq_true rfl) (Nat.le_of_ble_eq_true rfl) ?_
              exact fi_i (v, 300) hx hb hr hlocks hK (hP.sub [0] rfl) (hD.sub [0] (by decide) rfl) hS (pf_X4_level_4 w v c_1 c_2 c_3 c_4 c_5 c_6) dX4_level_59
          · refine lv_aload_n hx hb dX4_level_29 rfl (lv_at hl 0 rfl) ?_
            refine va_get (D := D) (ci := 4) (v := .int 500) (C := RX4) (T := TX4) (N := 25) hx hb hts iw_X4_level_4 hown hK hP 0 rfl rfl 6 (by decide) (hts _ wd_X4_level_1) (fun _ h9 => h9) rfl dX4_level_30 ?_
            refine lv_goto (tgt := 40) hx hb dX4_level_33 (by decide) ?_
            refine lv_istore_n (lv' := [(3, .int 500), (0, .ref y0), (1, .int w), (2, .int v)]) hx hb dX4_level_40 rfl hl (by decide) rfl (fun ls hl => ?_)
            refine lv_iload_n hx hb dX4_level_41 rfl (lv_at hl 2 rfl) ?_
            refine lv_if_ne (tgt := 53) hx hb dX4_level_42 (by decide) (fun c_7 => ?_) (fun c_7 => ?_)
            · refine lv_aload_n hx hb dX4_level_53 rfl (lv_at hl 1 rfl) ?_
              refine lv_iload_n hx hb dX4_level_54 rfl (lv_at hl 3 rfl) ?_
              refine va_put (D := D) (ci := 4) (v := .int v) (ty := .int) (C := RX4) (T := TX4) (N := 25) hx hb hts iw_X4_level_4 tyX4 tyX4_ok nmX4 hown hK hP hD hS 0 rfl rfl 7 (by decide) (hts _ wd_X4_level_2) (fun _ h9 => h9) rfl (by decide +kernel) rfl rfl (Nat.le_of_ble_eq_true rfl) dX4_level_55 (fun H locs hP hD hS => ?_)
              have hP : va_P D vwCl [(y0, .inr (4, [.int 0, .int 0, .int 0, .int 0, .int 100, .int 0, .int 500, .int v, .ref m_kind, .ref m_floor, .ref m_volume, .ref m_size, .ref m_faces, .ref m_when, .ref m_ahead, .ref m_order, .ref m_tried, .ref m_chosen, .ref m_forms, .ref m_warmth, .ref m_degrees, .ref m_thousandths, .ref m_longest, .long 0, .long 0]))] H := hP
              have hD : va_D A [(y0, .inr (4, [.int 0, .int 0, .int 0, .int 0, .int 100, .int 0, .int 500, .int v, .ref m_kind, .ref m_floor, .ref m_volume, .ref m_size, .ref m_faces, .ref m_when, .ref m_ahead, .ref m_order, .ref m_tried, .ref m_chosen, .ref m_forms, .ref m_warmth, .ref m_degrees, .ref m_thousandths, .ref m_longest, .long 0, .long 0]))] := hD
              refine lv_iload_n hx hb dX4_level_58 rfl (lv_at hl 0 rfl) ?_
              refine W.widen (k := 0) (n := 0) (Nat.le_of_ble_eq_true rfl) (Nat.le_of_ble_eq_true rfl) ?_
              exact fi_i (500, v) hx hb hr hlocks hK (hP.sub [0] rfl) (hD.sub [0] (by decide) rfl) hS (pf_X4_level_5 w v c_1 c_2 c_3 c_4 c_5 c_7) dX4_level_59
            · refine lv_aload_n hx hb dX4_level_45 rfl (lv_at hl 1 rfl) ?_
              refine lv_iload_n hx hb dX4_level_46 rfl (lv_at hl 3 rfl) ?_
              refine va_put (D := D) (ci := 4) (v := .int v) (ty := .int) (C := RX4) (T := TX4) (N := 25) hx hb hts iw_X4_level_4 tyX4 tyX4_ok nmX4 hown hK hP hD hS 0 rfl rfl 6 (by decide) (hts _ wd_X4_level_1) (fun _ h9 => h9) rfl (by decide +kernel) rfl rfl (Nat.le_of_ble_eq_true rfl) dX4_level_47 (fun H locs hP hD hS => ?_)
              have hP : va_P D vwCl [(y0, .inr (4, [.int 0, .int 0, .int 0, .int 0, .int 100, .int 0, .int v, .int 300, .ref m_kind, .ref m_floor, .ref m_volume, .ref m_size, .ref m_faces, .ref m_when, .ref m_ahead, .ref m_order, .ref m_tried, .ref m_chosen, .ref m_forms, .ref m_warmth, .ref m_degrees, .ref m_thousandths, .ref m_longest, .long 0, .long 0]))] H := hP
              have hD : va_D A [(y0, .inr (4, [.int 0, .int 0, .int 0, .int 0, .int 100, .int 0, .int v, .int 300, .ref m_kind, .ref m_floor, .ref m_volume, .ref m_size, .ref m_faces, .ref m_when, .ref m_ahead, .ref m_order, .ref m_tried, .ref m_chosen, .ref m_forms, .ref m_warmth, .ref m_degrees, .ref m_thousandths, .ref m_longest, .long 0, .long 0]))] := hD
              refine lv_goto (tgt := 58) hx hb dX4_level_50 (by decide) ?_
              refine lv_iload_n hx hb dX4_level_58 rfl (lv_at hl 0 rfl) ?_
              refine W.widen (k := 0) (n := 0) (Nat.le_of_ble_eq_true rfl) (Nat.le_of_ble_eq_true rfl) ?_
              exact fi_i (v, 300) hx hb hr hlocks hK (hP.sub [0] rfl) (hD.sub [0] (by decide) rfl) hS (pf_X4_level_6 w v c_1 c_2 c_3 c_4 c_5 c_7) dX4_level_59
        · refine lv_bipush (v := (-2)) hx hb dX4_level_22 (by decide) ?_
          refine W.widen (k := 0) (n := 0) (Nat.le_of_ble_eq_true rfl) (Nat.le_of_ble_eq_true rfl) ?_
          exact fi_i (500, 300) hx hb hr hlocks hK (hP.sub [0] rfl) (hD.sub [0] (by decide) rfl) hS (pf_X4_level_7 w v c_1 c_2 c_3 c_4) dX4_level_24
    · refine lv_iconst (v := (-1)) hx hb dX4_level_9 (by decide) ?_
      refine W.widen (k := 0) (n := 0) (Nat.le_of_ble_eq_true rfl) (Nat.le_of_ble_eq_true rfl) ?_
      exact fi_i (500, 300) hx hb hr hlocks hK (hP.sub [0] rfl) (hD.sub [0] (by decide) rfl) hS (pf_X4_level_8 w v c_1 c_2) dX4_level_10

theorem iw_X4_warm_4 : ∀ w ∈ wsX40, w ∈ wsX4_warm := fun w h => (List.mem_cons_of_mem _ (List.mem_append_right _ h))
theorem wd_X4_warm_1 : (.constant RX4 83 (-2147483648) : Cond) ∈ wsX4_warm := List.mem_of_getElem? (i := 1) rfl
theorem wd_X4_warm_2 : (.constant RX4 84 (-2147483647) : Cond) ∈ wsX4_warm := List.mem_of_getElem? (i := 2) rfl
theorem wd_X4_warm_3 : (.fieldLink RX4 55 "PourPlanModel" "warmth" "[I" : Cond) ∈ wsX4_warm := List.mem_of_getElem? (i := 3) rfl
set_option maxHeartbeats 1000000 in
theorem pf_X4_warm_1 (u_warmth : Nat → Int32) (d : Int32) (w : Int32) (r_1 : Int32) (hf : ∀ j, j < 40 → u_warmth j = 20) (w_2 : r_1 = bDay d) (c_4 : ¬ r_1 = 0) (c_5 : w < (-30)) : (-2147483647 : Int32) = an_warm d w := by
  first
  | (grind [an_warm, bDay])
  | (have h3 : vp_in d 40 := vi_in (M := 40) rfl (by grind [bDay]) (by grind [bDay])
     have h4 := hf _ (cl_lt h3)
     grind [an_warm, bDay])
set_option maxHeartbeats 1000000 in
theorem pf_X4_warm_2 (u_warmth : Nat → Int32) (d : Int32) (w : Int32) (r_1 : Int32) (hf : ∀ j, j < 40 → u_warmth j = 20) (w_2 : r_1 = bDay d) (c_4 : ¬ r_1 = 0) (c_5 : ¬ w < (-30)) (c_6 : w ≤ 50) : vp_in d 40 := by
  exact vi_in (M := 40) rfl (by grind [an_warm, bDay]) (by grind [an_warm, bDay])
set_option maxHeartbeats 1000000 in
theorem pf_X4_warm_3 (u_warmth : Nat → Int32) (d : Int32) (w : Int32) (r_1 : Int32) (v_7 : Int32) (hf : ∀ j, j < 40 → u_warmth j = 20) (w_2 : r_1 = bDay d) (c_4 : ¬ r_1 = 0) (c_5 : ¬ w < (-30)) (c_6 : w ≤ 50) (ev_7 : v_7 = u_warmth d.toNatClampNeg) : vp_in d 40 := by
  exact vi_in (M := 40) rfl (by grind [an_warm, bDay]) (by grind [an_warm, bDay])
set_option maxHeartbeats 1000000 in
theorem pf_X4_warm_4 (u_warmth : Nat → Int32) (d : Int32) (w : Int32) (r_1 : Int32) (v_7 : Int32) (hf : ∀ j, j < 40 → u_warmth j = 20) (w_2 : r_1 = bDay d) (c_4 : ¬ r_1 = 0) (c_5 : ¬ w < (-30)) (c_6 : w ≤ 50) (ev_7 : v_7 = u_warmth d.toNatClampNeg) : v_7 = an_warm d w := by
  first
  | (grind [an_warm, bDay])
  | (have h3 : vp_in d 40 := vi_in (M := 40) rfl (by grind [bDay]) (by grind [bDay])
     have h4 := hf _ (cl_lt h3)
     grind [an_warm, bDay])
set_option maxHeartbeats 1000000 in
theorem pf_X4_warm_5 (u_warmth : Nat → Int32) (d : Int32) (w : Int32) (r_1 : Int32) (hf : ∀ j, j < 40 → u_warmth j = 20) (w_2 : r_1 = bDay d) (c_4 : ¬ r_1 = 0) (c_5 : ¬ w < (-30)) (c_6 : ¬ w ≤ 50) : (-2147483647 : Int32) = an_warm d w := by
  first
  | (grind [an_warm, bDay])
  | (have h3 : vp_in d 40 := vi_in (M := 40) rfl (by grind [bDay]) (by grind [bDay])
     have h4 := hf _ (cl_lt h3)
     grind [an_warm, bDay])
set_option maxHeartbeats 1000000 in
theorem pf_X4_warm_6 (u_warmth : Nat → Int32) (d : Int32) (w : Int32) (r_1 : Int32) (hf : ∀ j, j < 40 → u_warmth j = 20) (w_2 : r_1 = bDay d) (c_4 : r_1 = 0) : (-2147483648 : Int32) = an_warm d w := by
  first
  | (grind [an_warm, bDay])
  | (have h3 : vp_in d 40 := vi_in (M := 40) rfl (by grind [bDay]) (by grind [bDay])
     have h4 := hf _ (cl_lt h3)
     grind [an_warm, bDay])
set_option maxHeartbeats 4000000 in
set_option maxRecDepth 100000 in
theorem c_X4_warm (l : Launch) (D : va_G) (cI : ClassId) (sz : Nat) (y0 : Nat) (m_warmth : Nat) (m_kind : Nat) (m_floor : Nat) (m_volume : Nat) (m_size : Nat) (m_faces : Nat) (m_when : Nat) (m_ahead : Nat) (m_order : Nat) (m_tried : Nat) (m_chosen : Nat) (m_forms : Nat) (m_degrees : Nat) (m_thousandths : Nat) (m_longest : Nat) (u_warmth : Nat → Int32) (d : Int32) (w : Int32) (hf : ∀ j, j < 40 → u_warmth j = 20) : CtI l yX4_warm wsX4_warm 1 20 0 0 [.ref y0, .int d, .int w] D [(cI, .int)] [(y0, .inr (4, [.int 0, .int 0, .int 0, .int 0, .int 100, .int 0, .int 500, .int 300, .ref m_kind, .ref m_floor, .ref m_volume, .ref m_size, .ref m_faces, .ref m_when, .ref m_ahead, .ref m_order, .ref m_tried, .ref m_chosen, .ref m_forms, .ref m_warmth, .ref m_degrees, .ref m_thousandths, .ref m_longest, .long 0, .long 0])), (m_warmth, .inl (cI, 40, .inl u_warmth))] sz (fun (r : Int32) (u : (Nat → Int32)) => r = an_warm d w) (fun (u : (Nat → Int32)) => [(y0, .inr (4, [.int 0, .int 0, .int 0, .int 0, .int 100, .int 0, .int 500, .int 300, .ref m_kind, .ref m_floor, .ref m_volume, .ref m_size, .ref m_faces, .ref m_when, .ref m_ahead, .ref m_order, .ref m_tried, .ref m_chosen, .ref m_forms, .ref m_warmth, .ref m_degrees, .ref m_thousandths, .ref m_longest, .long 0, .long 0])), (m_warmth, .inl (cI, 40, .inl u))]) := by
  refine Met.ofW (cc := cX4_warm) (maxL := 4) (ret := (some .int)) (by decide) rfl ?_
  intro p e s m args below meth c s₁ B hml hv
  obtain ⟨rfl, hsz, hP, hK, hD0, hN⟩ := hv
  have hx := B.exec
  have hb := B.bytes
  have hr := B.returns
  have hts := atoms_spec (ws := wsX4_warm) B.pre
  have hown : s.vm.findClass RX4 = some m.cls := findClass_of_methodNamed B.named
  have hlocks := B.notSynchronized
  subst hsz
  have hD := hD0.self (sz := s.heap.size)
  generalize hAe : va_A [(y0, .inr (4, [.int 0, .int 0, .int 0, .int 0, .int 100, .int 0, .int 500, .int 300, .ref m_kind, .ref m_floor, .ref m_volume, .ref m_size, .ref m_faces, .ref m_when, .ref m_ahead, .ref m_order, .ref m_tried, .ref m_chosen, .ref m_forms, .ref m_warmth, .ref m_degrees, .ref m_thousandths, .ref m_longest, .long 0, .long 0])), (m_warmth, .inl (cI, 40, .inl u_warmth))] s.heap.size = A at hD ⊢
  have hA : ∀ q : Nat, s.heap.size ≤ q → A q := fun q h => by rw [← hAe]; exact Or.inr h
  have hS : va_S A s.heap s.heap [] := va_S.rf
  have hl := lv_entry ([.ref y0, .int d, .int w]) (n := 4) (Nat.le_of_ble_eq_true rfl)
  rw [lg_entry_eq]
  generalize (lg_sl ([.ref y0, .int d, .int w]) ++ List.replicate (4 - (lg_sl ([.ref y0, .int d, .int w])).length) Slot.unset).toArray = ls at hl ⊢
  have hl : lv_has ls 4 [(0, .ref y0), (1, .int d), (2, .int w)] := hl
  have hP0 := hP
  refine lv_iload_n hx hb dX4_warm_0 rfl (lv_at hl 1 rfl) ?_
  refine cc_i (wc := []) (wr := [(y0, .inr (4, [.int 0, .int 0, .int 0, .int 0, .int 100, .int 0, .int 500, .int 300, .ref m_kind, .ref m_floor, .ref m_volume, .ref m_size, .ref m_faces, .ref m_when, .ref m_ahead, .ref m_order, .ref m_tried, .ref m_chosen, .ref m_forms, .ref m_warmth, .ref m_degrees, .ref m_thousandths, .ref m_longest, .long 0, .long 0])), (m_warmth, .inl (cI, 40, .inl u_warmth))]) (va_runS (As := [.int d]) (rest := []) ⟨hx, hb, hml, hown, hts⟩ (c_X4_isDay l D cI s.heap.size d ) (va_cwS 1 hts gX4_warm_X4_isDay rfl rfl rfl (by decide +kernel) ⟨Nat.le_of_ble_eq_true rfl, Nat.le_of_ble_eq_true rfl⟩) (preS (wc := []) hK hP hD hN [] rfl (by decide)) rfl rfl hl.1 rfl (lv_room (Nat.le_of_ble_eq_true rfl)) dX4_warm_1 ⟨Nat.le_of_ble_eq_true rfl, Nat.le_of_ble_eq_true rfl⟩) hP hD hS hA [] [0, 1] rfl rfl (by decide) (by decide) (fun r_1 u H locs w_2 hP hD hS => ?_)
  have hP : va_P D vwCl [(y0, .inr (4, [.int 0, .int 0, .int 0, .int 0, .int 100, .int 0, .int 500, .int 300, .ref m_kind, .ref m_floor, .ref m_volume, .ref m_size, .ref m_faces, .ref m_when, .ref m_ahead, .ref m_order, .ref m_tried, .ref m_chosen, .ref m_forms, .ref m_warmth, .ref m_degrees, .ref m_thousandths, .ref m_longest, .long 0, .long 0])), (m_warmth, .inl (cI, 40, .inl u_warmth))] H := hP
  have hD : va_D A [(y0, .inr (4, [.int 0, .int 0, .int 0, .int 0, .int 100, .int 0, .int 500, .int 300, .ref m_kind, .ref m_floor, .ref m_volume, .ref m_size, .ref m_faces, .ref m_when, .ref m_ahead, .ref m_order, .ref m_tried, .ref m_chosen, .ref m_forms, .ref m_warmth, .ref m_degrees, .ref m_thousandths, .ref m_longest, .long 0, .long 0])), (m_warmth, .inl (cI, 40, .inl u_warmth))] := hD
  have w_2 : r_1 = bDay d := w_2
  refine lv_if_ne (tgt := 10) hx hb dX4_warm_4 (by decide) (fun c_4 => ?_) (fun c_4 => ?_)
  · refine lv_iload_n hx hb dX4_warm_10 rfl (lv_at hl 2 rfl) ?_
    refine lv_bipush (v := (-30)) hx hb dX4_warm_11 (by decide) ?_
    refine lv_icmp_lt (tgt := 22) hx hb dX4_warm_13 (by decide) (fun c_5 => ?_) (fun c_5 => ?_)
    · refine lv_ldc hx hb hown (hts _ wd_X4_warm_2) dX4_warm_22 ?_
      refine W.widen (k := 0) (n := 0) (Nat.le_of_ble_eq_true rfl) (Nat.le_of_ble_eq_true rfl) ?_
      exact fi_i u_warmth hx hb hr hlocks hK (hP.sub [0, 1] rfl) (hD.sub [0, 1] (by decide) rfl) hS (pf_X4_warm_1 u_warmth d w r_1 hf w_2 c_4 c_5) dX4_warm_24
    · refine lv_iload_n hx hb dX4_warm_16 rfl (lv_at hl 2 rfl) ?_
      refine lv_bipush (v := 50) hx hb dX4_warm_17 (by decide) ?_
      refine lv_icmp_le (tgt := 25) hx hb dX4_warm_19 (by decide) (fun c_6 => ?_) (fun c_6 => ?_)
      · refine lv_aload_n hx hb dX4_warm_25 rfl (lv_at hl 0 rfl) ?_
        refine va_get (D := D) (ci := 4) (v := .ref m_warmth) (C := RX4) (T := TX4) (N := 25) hx hb hts iw_X4_warm_4 hown hK hP 0 rfl rfl 19 (by decide) (hts _ wd_X4_warm_3) (fun _ h9 => h9) rfl dX4_warm_26 ?_
        refine lv_iload_n hx hb dX4_warm_29 rfl (lv_at hl 1 rfl) ?_
        refine va_iald hx hb hK hP 1 0 rfl rfl (pf_X4_warm_2 u_warmth d w r_1 hf w_2 c_4 c_5 c_6) dX4_warm_30 ?_
        refine lv_topi (fun v_7 ev_7 => ?_)
        refine lv_istore_n (lv' := [(3, .int v_7), (0, .ref y0), (1, .int d), (2, .int w)]) hx hb dX4_warm_31 rfl hl (by decide) rfl (fun ls hl => ?_)
        refine lv_aload_n hx hb dX4_warm_32 rfl (lv_at hl 1 rfl) ?_
        refine va_get (D := D) (ci := 4) (v := .ref m_warmth) (C := RX4) (T := TX4) (N := 25) hx hb hts iw_X4_warm_4 hown hK hP 0 rfl rfl 19 (by decide) (hts _ wd_X4_warm_3) (fun _ h9 => h9) rfl dX4_warm_33 ?_
        refine lv_iload_n hx hb dX4_warm_36 rfl (lv_at hl 2 rfl) ?_
        refine lv_iload_n hx hb dX4_warm_37 rfl (lv_at hl 3 rfl) ?_
        refine va_iast hx hb hK hP hD hS 1 0 rfl rfl (pf_X4_warm_3 u_warmth d w r_1 v_7 hf w_2 c_4 c_5 c_6 ev_7) dX4_warm_38 (fun H locs hP hD hS => ?_)
        have hP : va_P D vwCl [(y0, .inr (4, [.int 0, .int 0, .int 0, .int 0, .int 100, .int 0, .int 500, .int 300, .ref m_kind, .ref m_floor, .ref m_volume, .ref m_size, .ref m_faces, .ref m_when, .ref m_ahead, .ref m_order, .ref m_tried, .ref m_chosen, .ref m_forms, .ref m_warmth, .ref m_degrees, .ref m_thousandths, .ref m_longest, .long 0, .long 0])), (m_warmth, .inl (cI, 40, .inl (upd u_warmth d.toNatClampNeg w)))] H := hP
        have hD : va_D A [(y0, .inr (4, [.int 0, .int 0, .int 0, .int 0, .int 100, .int 0, .int 500, .int 300, .ref m_kind, .ref m_floor, .ref m_volume, .ref m_size, .ref m_faces, .ref m_when, .ref m_ahead, .ref m_order, .ref m_tried, .ref m_chosen, .ref m_forms, .ref m_warmth, .ref m_degrees, .ref m_thousandths, .ref m_longest, .long 0, .long 0])), (m_warmth, .inl (cI, 40, .inl (upd u_warmth d.toNatClampNeg w)))] := hD
        refine lv_iload_n hx hb dX4_warm_39 rfl (lv_at hl 0 rfl) ?_
        refine W.widen (k := 0) (n := 0) (Nat.le_of_ble_eq_true rfl) (Nat.le_of_ble_eq_true rfl) ?_
        exact fi_i (upd u_warmth d.toNatClampNeg w) hx hb hr hlocks hK (hP.sub [0, 1] rfl) (hD.sub [0, 1] (by decide) rfl) hS (pf_X4_warm_4 u_warmth d w r_1 v_7 hf w_2 c_4 c_5 c_6 ev_7) dX4_warm_40
      · refine lv_ldc hx hb hown (hts _ wd_X4_warm_2) dX4_warm_22 ?_
        refine W.widen (k := 0) (n := 0) (Nat.le_of_ble_eq_true rfl) (Nat.le_of_ble_eq_true rfl) ?_
        exact fi_i u_warmth hx hb hr hlocks hK (hP.sub [0, 1] rfl) (hD.sub [0, 1] (by decide) rfl) hS (pf_X4_warm_5 u_warmth d w r_1 hf w_2 c_4 c_5 c_6) dX4_warm_24
  · refine lv_ldc hx hb hown (hts _ wd_X4_warm_1) dX4_warm_7 ?_
    refine W.widen (k := 0) (n := 0) (Nat.le_of_ble_eq_true rfl) (Nat.le_of_ble_eq_true rfl) ?_
    exact fi_i u_warmth hx hb hr hlocks hK (hP.sub [0, 1] rfl) (hD.sub [0, 1] (by decide) rfl) hS (pf_X4_warm_6 u_warmth d w r_1 hf w_2 c_4) dX4_warm_9

theorem iw_X4_base_4 : ∀ w ∈ wsX40, w ∈ wsX4_base := fun w h => (List.mem_cons_of_mem _ (List.mem_append_right _ h))
theorem wd_X4_base_1 : (.fieldLink RX4 85 "PourPlanModel" "base" "I" : Cond) ∈ wsX4_base := List.mem_of_getElem? (i := 1) rfl
set_option maxHeartbeats 1000000 in
theorem pf_X4_base_1 (b1 : Int32) (c_1 : b1 < 0) : (-2 : Int32) = an_base b1 := by
  grind [an_base]
set_option maxHeartbeats 1000000 in
theorem pf_X4_base_2 (b1 : Int32) (c_1 : ¬ b1 < 0) (c_2 : b1 ≤ 20) : (0 : Int32) = an_base b1 := by
  grind [an_base]
set_option maxHeartbeats 1000000 in
theorem pf_X4_base_3 (b1 : Int32) (c_1 : ¬ b1 < 0) (c_2 : ¬ b1 ≤ 20) : (-2 : Int32) = an_base b1 := by
  grind [an_base]
set_option maxHeartbeats 4000000 in
set_option maxRecDepth 100000 in
theorem c_X4_base (l : Launch) (D : va_G) (cI : ClassId) (sz : Nat) (y0 : Nat) (m_kind : Nat) (m_floor : Nat) (m_volume : Nat) (m_size : Nat) (m_faces : Nat) (m_when : Nat) (m_ahead : Nat) (m_order : Nat) (m_tried : Nat) (m_chosen : Nat) (m_forms : Nat) (m_warmth : Nat) (m_degrees : Nat) (m_thousandths : Nat) (m_longest : Nat) (b1 : Int32) : CtI l yX4_base wsX4_base 0 0 0 0 [.ref y0, .int b1] D [(cI, .int)] [(y0, .inr (4, [.int 0, .int 0, .int 0, .int 0, .int 100, .int 0, .int 500, .int 300, .ref m_kind, .ref m_floor, .ref m_volume, .ref m_size, .ref m_faces, .ref m_when, .ref m_ahead, .ref m_order, .ref m_tried, .ref m_chosen, .ref m_forms, .ref m_warmth, .ref m_degrees, .ref m_thousandths, .ref m_longest, .long 0, .long 0]))] sz (fun (r : Int32) (u : Int32) => r = an_base b1) (fun (u : Int32) => [(y0, .inr (4, [.int 0, .int 0, .int 0, .int 0, .int 100, .int u, .int 500, .int 300, .ref m_kind, .ref m_floor, .ref m_volume, .ref m_size, .ref m_faces, .ref m_when, .ref m_ahead, .ref m_order, .ref m_tried, .ref m_chosen, .ref m_forms, .ref m_warmth, .ref m_degrees, .ref m_thousandths, .ref m_longest, .long 0, .long 0]))]) := by
  refine Met.ofW (cc := cX4_base) (maxL := 3) (ret := (some .int)) (by decide) rfl ?_
  intro p e s m args below meth c s₁ B hml hv
  obtain ⟨rfl, hsz, hP, hK, hD0, hN⟩ := hv
  have hx := B.exec
  have hb := B.bytes
  have hr := B.returns
  have hts := atoms_spec (ws := wsX4_base) B.pre
  have hown : s.vm.findClass RX4 = some m.cls := findClass_of_methodNamed B.named
  have hlocks := B.notSynchronized
  subst hsz
  have hD := hD0.self (sz := s.heap.size)
  generalize hAe : va_A [(y0, .inr (4, [.int 0, .int 0, .int 0, .int 0, .int 100, .int 0, .int 500, .int 300, .ref m_kind, .ref m_floor, .ref m_volume, .ref m_size, .ref m_faces, .ref m_when, .ref m_ahead, .ref m_order, .ref m_tried, .ref m_chosen, .ref m_forms, .ref m_warmth, .ref m_degrees, .ref m_thousandths, .ref m_longest, .long 0, .long 0]))] s.heap.size = A at hD ⊢
  have hA : ∀ q : Nat, s.heap.size ≤ q → A q := fun q h => by rw [← hAe]; exact Or.inr h
  have hS : va_S A s.heap s.heap [] := va_S.rf
  have hl := lv_entry ([.ref y0, .int b1]) (n := 3) (Nat.le_of_ble_eq_true rfl)
  rw [lg_entry_eq]
  generalize (lg_sl ([.ref y0, .int b1]) ++ List.replicate (3 - (lg_sl ([.ref y0, .int b1])).length) Slot.unset).toArray = ls at hl ⊢
  have hl : lv_has ls 3 [(0, .ref y0), (1, .int b1)] := hl
  have hP0 := hP
  refine lv_iload_n hx hb dX4_base_0 rfl (lv_at hl 1 rfl) ?_
  refine lv_if_lt (tgt := 10) hx hb dX4_base_1 (by decide) (fun c_1 => ?_) (fun c_1 => ?_)
  · refine lv_bipush (v := (-2)) hx hb dX4_base_10 (by decide) ?_
    refine W.widen (k := 0) (n := 0) (Nat.le_of_ble_eq_true rfl) (Nat.le_of_ble_eq_true rfl) ?_
    exact fi_i 0 hx hb hr hlocks hK (hP.sub [0] rfl) (hD.sub [0] (by decide) rfl) hS (pf_X4_base_1 b1 c_1) dX4_base_12
  · refine lv_iload_n hx hb dX4_base_4 rfl (lv_at hl 1 rfl) ?_
    refine lv_bipush (v := 20) hx hb dX4_base_5 (by decide) ?_
    refine lv_icmp_le (tgt := 13) hx hb dX4_base_7 (by decide) (fun c_2 => ?_) (fun c_2 => ?_)
    · refine lv_aload_n hx hb dX4_base_13 rfl (lv_at hl 0 rfl) ?_
      refine va_get (D := D) (ci := 4) (v := .int 0) (C := RX4) (T := TX4) (N := 25) hx hb hts iw_X4_base_4 hown hK hP 0 rfl rfl 5 (by decide) (hts _ wd_X4_base_1) (fun _ h9 => h9) rfl dX4_base_14 ?_
      refine lv_istore_n (lv' := [(2, .int 0), (0, .ref y0), (1, .int b1)]) hx hb dX4_base_17 rfl hl (by decide) rfl (fun ls hl => ?_)
      refine lv_aload_n hx hb dX4_base_18 rfl (lv_at hl 1 rfl) ?_
      refine lv_iload_n hx hb dX4_base_19 rfl (lv_at hl 2 rfl) ?_
      refine va_put (D := D) (ci := 4) (v := .int b1) (ty := .int) (C := RX4) (T := TX4) (N := 25) hx hb hts iw_X4_base_4 tyX4 tyX4_ok nmX4 hown hK hP hD hS 0 rfl rfl 5 (by decide) (hts _ wd_X4_base_1) (fun _ h9 => h9) rfl (by decide +kernel) rfl rfl (Nat.le_of_ble_eq_true rfl) dX4_base_20 (fun H locs hP hD hS => ?_)
      have hP : va_P D vwCl [(y0, .inr (4, [.int 0, .int 0, .int 0, .int 0, .int 100, .int b1, .int 500, .int 300, .ref m_kind, .ref m_floor, .ref m_volume, .ref m_size, .ref m_faces, .ref m_when, .ref m_ahead, .ref m_order, .ref m_tried, .ref m_chosen, .ref m_forms, .ref m_warmth, .ref m_degrees, .ref m_thousandths, .ref m_longest, .long 0, .long 0]))] H := hP
      have hD : va_D A [(y0, .inr (4, [.int 0, .int 0, .int 0, .int 0, .int 100, .int b1, .int 500, .int 300, .ref m_kind, .ref m_floor, .ref m_volume, .ref m_size, .ref m_faces, .ref m_when, .ref m_ahead, .ref m_order, .ref m_tried, .ref m_chosen, .ref m_forms, .ref m_warmth, .ref m_degrees, .ref m_thousandths, .ref m_longest, .long 0, .long 0]))] := hD
      refine lv_iload_n hx hb dX4_base_23 rfl (lv_at hl 0 rfl) ?_
      refine W.widen (k := 0) (n := 0) (Nat.le_of_ble_eq_true rfl) (Nat.le_of_ble_eq_true rfl) ?_
      exact fi_i b1 hx hb hr hlocks hK (hP.sub [0] rfl) (hD.sub [0] (by decide) rfl) hS (pf_X4_base_2 b1 c_1 c_2) dX4_base_24
    · refine lv_bipush (v := (-2)) hx hb dX4_base_10 (by decide) ?_
      refine W.widen (k := 0) (n := 0) (Nat.le_of_ble_eq_true rfl) (Nat.le_of_ble_eq_true rfl) ?_
      exact fi_i 0 hx hb hr hlocks hK (hP.sub [0] rfl) (hD.sub [0] (by decide) rfl) hS (pf_X4_base_3 b1 c_1 c_2) dX4_base_12

theorem iw_X4_point_4 : ∀ w ∈ wsX40, w ∈ wsX4_point := fun w h => (List.mem_cons_of_mem _ (List.mem_append_right _ h))
theorem wd_X4_point_1 : (.fieldLink RX4 88 "PourPlanModel" "points" "I" : Cond) ∈ wsX4_point := List.mem_of_getElem? (i := 1) rfl
theorem wd_X4_point_2 : (.fieldLink RX4 58 "PourPlanModel" "degrees" "[I" : Cond) ∈ wsX4_point := List.mem_of_getElem? (i := 2) rfl
theorem wd_X4_point_3 : (.fieldLink RX4 61 "PourPlanModel" "thousandths" "[I" : Cond) ∈ wsX4_point := List.mem_of_getElem? (i := 3) rfl
set_option maxHeartbeats 1000000 in
theorem pf_X4_point_1 (d : Int32) (t : Int32) (c_1 : d < 1) : (-2 : Int32) = an_point d t := by
  grind [an_point]
set_option maxHeartbeats 1000000 in
theorem pf_X4_point_2 (d : Int32) (t : Int32) (c_1 : ¬ d < 1) (c_2 : 2000 < d) : (-2 : Int32) = an_point d t := by
  grind [an_point]
set_option maxHeartbeats 1000000 in
theorem pf_X4_point_3 (d : Int32) (t : Int32) (c_1 : ¬ d < 1) (c_2 : ¬ 2000 < d) (c_3 : t < 0) : (-2 : Int32) = an_point d t := by
  grind [an_point]
set_option maxHeartbeats 1000000 in
theorem pf_X4_point_4 (d : Int32) (t : Int32) (v_7 : Int32) (c_1 : ¬ d < 1) (c_2 : ¬ 2000 < d) (c_3 : ¬ t < 0) (c_4 : t ≤ 1000) (ev_7 : v_7 = 0 + 1) : v_7 = an_point d t := by
  grind [an_point]
set_option maxHeartbeats 1000000 in
theorem pf_X4_point_5 (d : Int32) (t : Int32) (c_1 : ¬ d < 1) (c_2 : ¬ 2000 < d) (c_3 : ¬ t < 0) (c_4 : ¬ t ≤ 1000) : (-2 : Int32) = an_point d t := by
  grind [an_point]
set_option maxHeartbeats 4000000 in
set_option maxRecDepth 100000 in
theorem c_X4_point (l : Launch) (D : va_G) (cI : ClassId) (sz : Nat) (y0 : Nat) (m_degrees : Nat) (m_thousandths : Nat) (m_kind : Nat) (m_floor : Nat) (m_volume : Nat) (m_size : Nat) (m_faces : Nat) (m_when : Nat) (m_ahead : Nat) (m_order : Nat) (m_tried : Nat) (m_chosen : Nat) (m_forms : Nat) (m_warmth : Nat) (m_longest : Nat) (u_degrees : Nat → Int32) (u_thousandths : Nat → Int32) (d : Int32) (t : Int32) : CtI l yX4_point wsX4_point 0 0 0 0 [.ref y0, .int d, .int t] D [(cI, .int)] [(y0, .inr (4, [.int 0, .int 0, .int 0, .int 0, .int 100, .int 0, .int 500, .int 300, .ref m_kind, .ref m_floor, .ref m_volume, .ref m_size, .ref m_faces, .ref m_when, .ref m_ahead, .ref m_order, .ref m_tried, .ref m_chosen, .ref m_forms, .ref m_warmth, .ref m_degrees, .ref m_thousandths, .ref m_longest, .long 0, .long 0])), (m_degrees, .inl (cI, 6, .inl u_degrees)), (m_thousandths, .inl (cI, 6, .inl u_thousandths))] sz (fun (r : Int32) (u : Int32 × (Nat → Int32) × (Nat → Int32)) => r = an_point d t) (fun (u : Int32 × (Nat → Int32) × (Nat → Int32)) => [(y0, .inr (4, [.int 0, .int u.1, .int 0, .int 0, .int 100, .int 0, .int 500, .int 300, .ref m_kind, .ref m_floor, .ref m_volume, .ref m_size, .ref m_faces, .ref m_when, .ref m_ahead, .ref m_order, .ref m_tried, .ref m_chosen, .ref m_forms, .ref m_warmth, .ref m_degrees, .ref m_thousandths, .ref m_longest, .long 0, .long 0])), (m_degrees, .inl (cI, 6, .inl u.2.1)), (m_thousandths, .inl (cI, 6, .inl u.2.2))]) := by
  refine Met.ofW (cc := cX4_point) (maxL := 3) (ret := (some .int)) (by decide) rfl ?_
  intro p e s m args below meth c s₁ B hml hv
  obtain ⟨rfl, hsz, hP, hK, hD0, hN⟩ := hv
  have hx := B.exec
  have hb := B.bytes
  have hr := B.returns
  have hts := atoms_spec (ws := wsX4_point) B.pre
  have hown : s.vm.findClass RX4 = some m.cls := findClass_of_methodNamed B.named
  have hlocks := B.notSynchronized
  subst hsz
  have hD := hD0.self (sz := s.heap.size)
  generalize hAe : va_A [(y0, .inr (4, [.int 0, .int 0, .int 0, .int 0, .int 100, .int 0, .int 500, .int 300, .ref m_kind, .ref m_floor, .ref m_volume, .ref m_size, .ref m_faces, .ref m_when, .ref m_ahead, .ref m_order, .ref m_tried, .ref m_chosen, .ref m_forms, .ref m_warmth, .ref m_degrees, .ref m_thousandths, .ref m_longest, .long 0, .long 0])), (m_degrees, .inl (cI, 6, .inl u_degrees)), (m_thousandths, .inl (cI, 6, .inl u_thousandths))] s.heap.size = A at hD ⊢
  have hA : ∀ q : Nat, s.heap.size ≤ q → A q := fun q h => by rw [← hAe]; exact Or.inr h
  have hS : va_S A s.heap s.heap [] := va_S.rf
  have hl := lv_entry ([.ref y0, .int d, .int t]) (n := 3) (Nat.le_of_ble_eq_true rfl)
  rw [lg_entry_eq]
  generalize (lg_sl ([.ref y0, .int d, .int t]) ++ List.replicate (3 - (lg_sl ([.ref y0, .int d, .int t])).length) Slot.unset).toArray = ls at hl ⊢
  have hl : lv_has ls 3 [(0, .ref y0), (1, .int d), (2, .int t)] := hl
  have hP0 := hP
  refine lv_iload_n hx hb dX4_point_0 rfl (lv_at hl 1 rfl) ?_
  refine lv_iconst (v := 1) hx hb dX4_point_1 (by decide) ?_
  refine lv_icmp_lt (tgt := 23) hx hb dX4_point_2 (by decide) (fun c_1 => ?_) (fun c_1 => ?_)
  · refine lv_bipush (v := (-2)) hx hb dX4_point_23 (by decide) ?_
    refine W.widen (k := 0) (n := 0) (Nat.le_of_ble_eq_true rfl) (Nat.le_of_ble_eq_true rfl) ?_
    exact fi_i (0, u_degrees, u_thousandths) hx hb hr hlocks hK (hP.sub [0, 1, 2] rfl) (hD.sub [0, 1, 2] (by decide) rfl) hS (pf_X4_point_1 d t c_1) dX4_point_25
  · refine lv_iload_n hx hb dX4_point_5 rfl (lv_at hl 1 rfl) ?_
    refine lv_sipush (v := 2000) hx hb dX4_point_6 (by decide) ?_
    refine lv_icmp_gt (tgt := 23) hx hb dX4_point_9 (by decide) (fun c_2 => ?_) (fun c_2 => ?_)
    · refine lv_bipush (v := (-2)) hx hb dX4_point_23 (by decide) ?_
      refine W.widen (k := 0) (n := 0) (Nat.le_of_ble_eq_true rfl) (Nat.le_of_ble_eq_true rfl) ?_
      exact fi_i (0, u_degrees, u_thousandths) hx hb hr hlocks hK (hP.sub [0, 1, 2] rfl) (hD.sub [0, 1, 2] (by decide) rfl) hS (pf_X4_point_2 d t c_1 c_2) dX4_point_25
    · refine lv_iload_n hx hb dX4_point_12 rfl (lv_at hl 2 rfl) ?_
      refine lv_if_lt (tgt := 23) hx hb dX4_point_13 (by decide) (fun c_3 => ?_) (fun c_3 => ?_)
      · refine lv_bipush (v := (-2)) hx hb dX4_point_23 (by decide) ?_
        refine W.widen (k := 0) (n := 0) (Nat.le_of_ble_eq_true rfl) (Nat.le_of_ble_eq_true rfl) ?_
        exact fi_i (0, u_degrees, u_thousandths) hx hb hr hlocks hK (hP.sub [0, 1, 2] rfl) (hD.sub [0, 1, 2] (by decide) rfl) hS (pf_X4_point_3 d t c_1 c_2 c_3) dX4_point_25
      · refine lv_iload_n hx hb dX4_point_16 rfl (lv_at hl 2 rfl) ?_
        refine lv_sipush (v := 1000) hx hb dX4_point_17 (by decide) ?_
        refine lv_icmp_le (tgt := 26) hx hb dX4_point_20 (by decide) (fun c_4 => ?_) (fun c_4 => ?_)
        · refine lv_aload_n hx hb dX4_point_26 rfl (lv_at hl 0 rfl) ?_
          refine va_get (D := D) (ci := 4) (v := .int 0) (C := RX4) (T := TX4) (N := 25) hx hb hts iw_X4_point_4 hown hK hP 0 rfl rfl 1 (by decide) (hts _ wd_X4_point_1) (fun _ h9 => h9) rfl dX4_point_27 ?_
          refine lv_if_le (tgt := 66) hx hb dX4_point_30 (by decide) (fun _ => ?_) (fun h => absurd (by decide) h)
          refine lv_aload_n hx hb dX4_point_66 rfl (lv_at hl 0 rfl) ?_
          refine va_get (D := D) (ci := 4) (v := .int 0) (C := RX4) (T := TX4) (N := 25) hx hb hts iw_X4_point_4 hown hK hP 0 rfl rfl 1 (by decide) (hts _ wd_X4_point_1) (fun _ h9 => h9) rfl dX4_point_67 ?_
          refine lv_bipush (v := 6) hx hb dX4_point_70 (by decide) ?_
          refine lv_icmp_ne (tgt := 78) hx hb dX4_point_72 (by decide) (fun _ => ?_) (fun h => absurd h (by decide))
          refine lv_aload_n hx hb dX4_point_78 rfl (lv_at hl 0 rfl) ?_
          refine va_get (D := D) (ci := 4) (v := .ref m_degrees) (C := RX4) (T := TX4) (N := 25) hx hb hts iw_X4_point_4 hown hK hP 0 rfl rfl 20 (by decide) (hts _ wd_X4_point_2) (fun _ h9 => h9) rfl dX4_point_79 ?_
          refine lv_aload_n hx hb dX4_point_82 rfl (lv_at hl 0 rfl) ?_
          refine va_get (D := D) (ci := 4) (v := .int 0) (C := RX4) (T := TX4) (N := 25) hx hb hts iw_X4_point_4 hown hK hP 0 rfl rfl 1 (by decide) (hts _ wd_X4_point_1) (fun _ h9 => h9) rfl dX4_point_83 ?_
          refine lv_iload_n hx hb dX4_point_86 rfl (lv_at hl 1 rfl) ?_
          refine va_iast hx hb hK hP hD hS 1 0 rfl rfl (by unfold vp_in; decide) dX4_point_87 (fun H locs hP hD hS => ?_)
          have hP : va_P D vwCl [(y0, .inr (4, [.int 0, .int 0, .int 0, .int 0, .int 100, .int 0, .int 500, .int 300, .ref m_kind, .ref m_floor, .ref m_volume, .ref m_size, .ref m_faces, .ref m_when, .ref m_ahead, .ref m_order, .ref m_tried, .ref m_chosen, .ref m_forms, .ref m_warmth, .ref m_degrees, .ref m_thousandths, .ref m_longest, .long 0, .long 0])), (m_degrees, .inl (cI, 6, .inl (upd u_degrees 0 d))), (m_thousandths, .inl (cI, 6, .inl u_thousandths))] H := hP
          have hD : va_D A [(y0, .inr (4, [.int 0, .int 0, .int 0, .int 0, .int 100, .int 0, .int 500, .int 300, .ref m_kind, .ref m_floor, .ref m_volume, .ref m_size, .ref m_faces, .ref m_when, .ref m_ahead, .ref m_order, .ref m_tried, .ref m_chosen, .ref m_forms, .ref m_warmth, .ref m_degrees, .ref m_thousandths, .ref m_longest, .long 0, .long 0])), (m_degrees, .inl (cI, 6, .inl (upd u_degrees 0 d))), (m_thousandths, .inl (cI, 6, .inl u_thousandths))] := hD
          refine lv_aload_n hx hb dX4_point_88 rfl (lv_at hl 0 rfl) ?_
          refine va_get (D := D) (ci := 4) (v := .ref m_thousandths) (C := RX4) (T := TX4) (N := 25) hx hb hts iw_X4_point_4 hown hK hP 0 rfl rfl 21 (by decide) (hts _ wd_X4_point_3) (fun _ h9 => h9) rfl dX4_point_89 ?_
          refine lv_aload_n hx hb dX4_point_92 rfl (lv_at hl 0 rfl) ?_
          refine va_get (D := D) (ci := 4) (v := .int 0) (C := RX4) (T := TX4) (N := 25) hx hb hts iw_X4_point_4 hown hK hP 0 rfl rfl 1 (by decide) (hts _ wd_X4_point_1) (fun _ h9 => h9) rfl dX4_point_93 ?_
          refine lv_iload_n hx hb dX4_point_96 rfl (lv_at hl 2 rfl) ?_
          refine va_iast hx hb hK hP hD hS 2 0 rfl rfl (by unfold vp_in; decide) dX4_point_97 (fun H locs hP hD hS => ?_)
          have hP : va_P D vwCl [(y0, .inr (4, [.int 0, .int 0, .int 0, .int 0, .int 100, .int 0, .int 500, .int 300, .ref m_kind, .ref m_floor, .ref m_volume, .ref m_size, .ref m_faces, .ref m_when, .ref m_ahead, .ref m_order, .ref m_tried, .ref m_chosen, .ref m_forms, .ref m_warmth, .ref m_degrees, .ref m_thousandths, .ref m_longest, .long 0, .long 0])), (m_degrees, .inl (cI, 6, .inl (upd u_degrees 0 d))), (m_thousandths, .inl (cI, 6, .inl (upd u_thousandths 0 t)))] H := hP
          have hD : va_D A [(y0, .inr (4, [.int 0, .int 0, .int 0, .int 0, .int 100, .int 0, .int 500, .int 300, .ref m_kind, .ref m_floor, .ref m_volume, .ref m_size, .ref m_faces, .ref m_when, .ref m_ahead, .ref m_order, .ref m_tried, .ref m_chosen, .ref m_forms, .ref m_warmth, .ref m_degrees, .ref m_thousandths, .ref m_longest, .long 0, .long 0])), (m_degrees, .inl (cI, 6, .inl (upd u_degrees 0 d))), (m_thousandths, .inl (cI, 6, .inl (upd u_thousandths 0 t)))] := hD
          refine lv_aload_n hx hb dX4_point_98 rfl (lv_at hl 0 rfl) ?_
          refine lv_dup hx hb dX4_point_99 rfl ?_
          refine va_get (D := D) (ci := 4) (v := .int 0) (C := RX4) (T := TX4) (N := 25) hx hb hts iw_X4_point_4 hown hK hP 0 rfl rfl 1 (by decide) (hts _ wd_X4_point_1) (fun _ h9 => h9) rfl dX4_point_100 ?_
          refine lv_iconst (v := 1) hx hb dX4_point_103 (by decide) ?_
          refine lv_iadd hx hb dX4_point_104 ?_
          refine lv_topi (fun v_7 ev_7 => ?_)
          refine lv_dup_x1 hx hb dX4_point_105 rfl rfl ?_
          refine va_put (D := D) (ci := 4) (v := .int v_7) (ty := .int) (C := RX4) (T := TX4) (N := 25) hx hb hts iw_X4_point_4 tyX4 tyX4_ok nmX4 hown hK hP hD hS 0 rfl rfl 1 (by decide) (hts _ wd_X4_point_1) (fun _ h9 => h9) rfl (by decide +kernel) rfl rfl (Nat.le_of_ble_eq_true rfl) dX4_point_106 (fun H locs hP hD hS => ?_)
          have hP : va_P D vwCl [(y0, .inr (4, [.int 0, .int v_7, .int 0, .int 0, .int 100, .int 0, .int 500, .int 300, .ref m_kind, .ref m_floor, .ref m_volume, .ref m_size, .ref m_faces, .ref m_when, .ref m_ahead, .ref m_order, .ref m_tried, .ref m_chosen, .ref m_forms, .ref m_warmth, .ref m_degrees, .ref m_thousandths, .ref m_longest, .long 0, .long 0])), (m_degrees, .inl (cI, 6, .inl (upd u_degrees 0 d))), (m_thousandths, .inl (cI, 6, .inl (upd u_thousandths 0 t)))] H := hP
          have hD : va_D A [(y0, .inr (4, [.int 0, .int v_7, .int 0, .int 0, .int 100, .int 0, .int 500, .int 300, .ref m_kind, .ref m_floor, .ref m_volume, .ref m_size, .ref m_faces, .ref m_when, .ref m_ahead, .ref m_order, .ref m_tried, .ref m_chosen, .ref m_forms, .ref m_warmth, .ref m_degrees, .ref m_thousandths, .ref m_longest, .long 0, .long 0])), (m_degrees, .inl (cI, 6, .inl (upd u_degrees 0 d))), (m_thousandths, .inl (cI, 6, .inl (upd u_thousandths 0 t)))] := hD
          refine W.widen (k := 0) (n := 0) (Nat.le_of_ble_eq_true rfl) (Nat.le_of_ble_eq_true rfl) ?_
          exact fi_i (v_7, upd u_degrees 0 d, upd u_thousandths 0 t) hx hb hr hlocks hK (hP.sub [0, 1, 2] rfl) (hD.sub [0, 1, 2] (by decide) rfl) hS (pf_X4_point_4 d t v_7 c_1 c_2 c_3 c_4 ev_7) dX4_point_109
        · refine lv_bipush (v := (-2)) hx hb dX4_point_23 (by decide) ?_
          refine W.widen (k := 0) (n := 0) (Nat.le_of_ble_eq_true rfl) (Nat.le_of_ble_eq_true rfl) ?_
          exact fi_i (0, u_degrees, u_thousandths) hx hb hr hlocks hK (hP.sub [0, 1, 2] rfl) (hD.sub [0, 1, 2] (by decide) rfl) hS (pf_X4_point_5 d t c_1 c_2 c_3 c_4) dX4_point_25

theorem iw_X4_unpoint_4 : ∀ w ∈ wsX40, w ∈ wsX4_unpoint := fun w h => (List.mem_cons_of_mem _ (List.mem_append_right _ h))
theorem wd_X4_unpoint_1 : (.fieldLink RX4 88 "PourPlanModel" "points" "I" : Cond) ∈ wsX4_unpoint := List.mem_of_getElem? (i := 1) rfl
set_option maxHeartbeats 1000000 in
theorem pf_X4_unpoint_1   : (0 : Int32) = 0 := by
  grind
set_option maxHeartbeats 4000000 in
set_option maxRecDepth 100000 in
theorem c_X4_unpoint (l : Launch) (D : va_G) (cI : ClassId) (sz : Nat) (y0 : Nat) (m_kind : Nat) (m_floor : Nat) (m_volume : Nat) (m_size : Nat) (m_faces : Nat) (m_when : Nat) (m_ahead : Nat) (m_order : Nat) (m_tried : Nat) (m_chosen : Nat) (m_forms : Nat) (m_warmth : Nat) (m_degrees : Nat) (m_thousandths : Nat) (m_longest : Nat) : CtI l yX4_unpoint wsX4_unpoint 0 0 0 0 [.ref y0] D [(cI, .int)] [(y0, .inr (4, [.int 0, .int 0, .int 0, .int 0, .int 100, .int 0, .int 500, .int 300, .ref m_kind, .ref m_floor, .ref m_volume, .ref m_size, .ref m_faces, .ref m_when, .ref m_ahead, .ref m_order, .ref m_tried, .ref m_chosen, .ref m_forms, .ref m_warmth, .ref m_degrees, .ref m_thousandths, .ref m_longest, .long 0, .long 0]))] sz (fun (r : Int32) (u : Unit) => r = 0) (fun (u : Unit) => [(y0, .inr (4, [.int 0, .int 0, .int 0, .int 0, .int 100, .int 0, .int 500, .int 300, .ref m_kind, .ref m_floor, .ref m_volume, .ref m_size, .ref m_faces, .ref m_when, .ref m_ahead, .ref m_order, .ref m_tried, .ref m_chosen, .ref m_forms, .ref m_warmth, .ref m_degrees, .ref m_thousandths, .ref m_longest, .long 0, .long 0]))]) := by
  refine Met.ofW (cc := cX4_unpoint) (maxL := 2) (ret := (some .int)) (by decide) rfl ?_
  intro p e s m args below meth c s₁ B hml hv
  obtain ⟨rfl, hsz, hP, hK, hD0, hN⟩ := hv
  have hx := B.exec
  have hb := B.bytes
  have hr := B.returns
  have hts := atoms_spec (ws := wsX4_unpoint) B.pre
  have hown : s.vm.findClass RX4 = some m.cls := findClass_of_methodNamed B.named
  have hlocks := B.notSynchronized
  subst hsz
  have hD := hD0.self (sz := s.heap.size)
  generalize hAe : va_A [(y0, .inr (4, [.int 0, .int 0, .int 0, .int 0, .int 100, .int 0, .int 500, .int 300, .ref m_kind, .ref m_floor, .ref m_volume, .ref m_size, .ref m_faces, .ref m_when, .ref m_ahead, .ref m_order, .ref m_tried, .ref m_chosen, .ref m_forms, .ref m_warmth, .ref m_degrees, .ref m_thousandths, .ref m_longest, .long 0, .long 0]))] s.heap.size = A at hD ⊢
  have hA : ∀ q : Nat, s.heap.size ≤ q → A q := fun q h => by rw [← hAe]; exact Or.inr h
  have hS : va_S A s.heap s.heap [] := va_S.rf
  have hl := lv_entry ([.ref y0]) (n := 2) (Nat.le_of_ble_eq_true rfl)
  rw [lg_entry_eq]
  generalize (lg_sl ([.ref y0]) ++ List.replicate (2 - (lg_sl ([.ref y0])).length) Slot.unset).toArray = ls at hl ⊢
  have hl : lv_has ls 2 [(0, .ref y0)] := hl
  have hP0 := hP
  refine lv_aload_n hx hb dX4_unpoint_0 rfl (lv_at hl 0 rfl) ?_
  refine va_get (D := D) (ci := 4) (v := .int 0) (C := RX4) (T := TX4) (N := 25) hx hb hts iw_X4_unpoint_4 hown hK hP 0 rfl rfl 1 (by decide) (hts _ wd_X4_unpoint_1) (fun _ h9 => h9) rfl dX4_unpoint_1 ?_
  refine lv_istore_n (lv' := [(1, .int 0), (0, .ref y0)]) hx hb dX4_unpoint_4 rfl hl (by decide) rfl (fun ls hl => ?_)
  refine lv_aload_n hx hb dX4_unpoint_5 rfl (lv_at hl 1 rfl) ?_
  refine lv_iconst (v := 0) hx hb dX4_unpoint_6 (by decide) ?_
  refine va_put (D := D) (ci := 4) (v := .int 0) (ty := .int) (C := RX4) (T := TX4) (N := 25) hx hb hts iw_X4_unpoint_4 tyX4 tyX4_ok nmX4 hown hK hP hD hS 0 rfl rfl 1 (by decide) (hts _ wd_X4_unpoint_1) (fun _ h9 => h9) rfl (by decide +kernel) rfl rfl (Nat.le_of_ble_eq_true rfl) dX4_unpoint_7 (fun H locs hP hD hS => ?_)
  have hP : va_P D vwCl [(y0, .inr (4, [.int 0, .int 0, .int 0, .int 0, .int 100, .int 0, .int 500, .int 300, .ref m_kind, .ref m_floor, .ref m_volume, .ref m_size, .ref m_faces, .ref m_when, .ref m_ahead, .ref m_order, .ref m_tried, .ref m_chosen, .ref m_forms, .ref m_warmth, .ref m_degrees, .ref m_thousandths, .ref m_longest, .long 0, .long 0]))] H := hP
  have hD : va_D A [(y0, .inr (4, [.int 0, .int 0, .int 0, .int 0, .int 100, .int 0, .int 500, .int 300, .ref m_kind, .ref m_floor, .ref m_volume, .ref m_size, .ref m_faces, .ref m_when, .ref m_ahead, .ref m_order, .ref m_tried, .ref m_chosen, .ref m_forms, .ref m_warmth, .ref m_degrees, .ref m_thousandths, .ref m_longest, .long 0, .long 0]))] := hD
  refine lv_iload_n hx hb dX4_unpoint_10 rfl (lv_at hl 0 rfl) ?_
  refine W.widen (k := 0) (n := 0) (Nat.le_of_ble_eq_true rfl) (Nat.le_of_ble_eq_true rfl) ?_
  exact fi_i () hx hb hr hlocks hK (hP.sub [0] rfl) (hD.sub [0] (by decide) rfl) hS (pf_X4_unpoint_1) dX4_unpoint_11

theorem iw_X4_table_4 : ∀ w ∈ wsX40, w ∈ wsX4_table := fun w h => (List.mem_cons_of_mem _ (List.mem_append_right _ h))
theorem wd_X4_table_1 : (.fieldLink RX4 88 "PourPlanModel" "points" "I" : Cond) ∈ wsX4_table := List.mem_of_getElem? (i := 1) rfl
set_option maxHeartbeats 1000000 in
theorem pf_X4_table_1 (d : Int32) (c_1 : 0 ≤ d) : (0 : Int32) = an_table d := by
  grind [an_table]
set_option maxHeartbeats 1000000 in
theorem pf_X4_table_2 (d : Int32) (c_1 : ¬ 0 ≤ d) : (-2 : Int32) = an_table d := by
  grind [an_table]
set_option maxHeartbeats 4000000 in
set_option maxRecDepth 100000 in
theorem c_X4_table (l : Launch) (D : va_G) (cI : ClassId) (sz : Nat) (y0 : Nat) (m_kind : Nat) (m_floor : Nat) (m_volume : Nat) (m_size : Nat) (m_faces : Nat) (m_when : Nat) (m_ahead : Nat) (m_order : Nat) (m_tried : Nat) (m_chosen : Nat) (m_forms : Nat) (m_warmth : Nat) (m_degrees : Nat) (m_thousandths : Nat) (m_longest : Nat) (d : Int32) : CtI l yX4_table wsX4_table 0 0 0 0 [.ref y0, .int d] D [(cI, .int)] [(y0, .inr (4, [.int 0, .int 0, .int 0, .int 0, .int 100, .int 0, .int 500, .int 300, .ref m_kind, .ref m_floor, .ref m_volume, .ref m_size, .ref m_faces, .ref m_when, .ref m_ahead, .ref m_order, .ref m_tried, .ref m_chosen, .ref m_forms, .ref m_warmth, .ref m_degrees, .ref m_thousandths, .ref m_longest, .long 0, .long 0]))] sz (fun (r : Int32) (u : Unit) => r = an_table d) (fun (u : Unit) => [(y0, .inr (4, [.int 0, .int 0, .int 0, .int 0, .int 100, .int 0, .int 500, .int 300, .ref m_kind, .ref m_floor, .ref m_volume, .ref m_size, .ref m_faces, .ref m_when, .ref m_ahead, .ref m_order, .ref m_tried, .ref m_chosen, .ref m_forms, .ref m_warmth, .ref m_degrees, .ref m_thousandths, .ref m_longest, .long 0, .long 0]))]) := by
  refine Met.ofW (cc := cX4_table) (maxL := 5) (ret := (some .int)) (by decide) rfl ?_
  intro p e s m args below meth c s₁ B hml hv
  obtain ⟨rfl, hsz, hP, hK, hD0, hN⟩ := hv
  have hx := B.exec
  have hb := B.bytes
  have hr := B.returns
  have hts := atoms_spec (ws := wsX4_table) B.pre
  have hown : s.vm.findClass RX4 = some m.cls := findClass_of_methodNamed B.named
  have hlocks := B.notSynchronized
  subst hsz
  have hD := hD0.self (sz := s.heap.size)
  generalize hAe : va_A [(y0, .inr (4, [.int 0, .int 0, .int 0, .int 0, .int 100, .int 0, .int 500, .int 300, .ref m_kind, .ref m_floor, .ref m_volume, .ref m_size, .ref m_faces, .ref m_when, .ref m_ahead, .ref m_order, .ref m_tried, .ref m_chosen, .ref m_forms, .ref m_warmth, .ref m_degrees, .ref m_thousandths, .ref m_longest, .long 0, .long 0]))] s.heap.size = A at hD ⊢
  have hA : ∀ q : Nat, s.heap.size ≤ q → A q := fun q h => by rw [← hAe]; exact Or.inr h
  have hS : va_S A s.heap s.heap [] := va_S.rf
  have hl := lv_entry ([.ref y0, .int d]) (n := 5) (Nat.le_of_ble_eq_true rfl)
  rw [lg_entry_eq]
  generalize (lg_sl ([.ref y0, .int d]) ++ List.replicate (5 - (lg_sl ([.ref y0, .int d])).length) Slot.unset).toArray = ls at hl ⊢
  have hl : lv_has ls 5 [(0, .ref y0), (1, .int d)] := hl
  have hP0 := hP
  refine lv_iload_n hx hb dX4_table_0 rfl (lv_at hl 1 rfl) ?_
  refine lv_if_ge (tgt := 7) hx hb dX4_table_1 (by decide) (fun c_1 => ?_) (fun c_1 => ?_)
  · refine lv_iconst (v := 0) hx hb dX4_table_7 (by decide) ?_
    refine lv_istore_n (lv' := [(2, .int 0), (0, .ref y0), (1, .int d)]) hx hb dX4_table_8 rfl hl (by decide) rfl (fun ls hl => ?_)
    refine lv_iconst (v := 0) hx hb dX4_table_9 (by decide) ?_
    refine lv_istore_n (lv' := [(3, .int 0), (2, .int 0), (0, .ref y0), (1, .int d)]) hx hb dX4_table_10 rfl hl (by decide) rfl (fun ls hl => ?_)
    refine lv_iconst (v := 0) hx hb dX4_table_11 (by decide) ?_
    refine lv_istore (lv' := [(4, .int 0), (3, .int 0), (2, .int 0), (0, .ref y0), (1, .int d)]) hx hb dX4_table_12 hl (by decide) rfl (fun ls hl => ?_)
    refine lv_iload hx hb dX4_table_14 (lv_at hl 0 rfl) ?_
    refine lv_aload_n hx hb dX4_table_16 rfl (lv_at hl 3 rfl) ?_
    refine va_get (D := D) (ci := 4) (v := .int 0) (C := RX4) (T := TX4) (N := 25) hx hb hts iw_X4_table_4 hown hK hP 0 rfl rfl 1 (by decide) (hts _ wd_X4_table_1) (fun _ h9 => h9) rfl dX4_table_17 ?_
    refine lv_icmp_ge (tgt := 82) hx hb dX4_table_20 (by decide) (fun _ => ?_) (fun h => absurd (by decide) h)
    refine lv_iload_n hx hb dX4_table_82 rfl (lv_at hl 1 rfl) ?_
    refine W.widen (k := 0) (n := 0) (Nat.le_of_ble_eq_true rfl) (Nat.le_of_ble_eq_true rfl) ?_
    exact fi_i () hx hb hr hlocks hK (hP.sub [0] rfl) (hD.sub [0] (by decide) rfl) hS (pf_X4_table_1 d c_1) dX4_table_83
  · refine lv_bipush (v := (-2)) hx hb dX4_table_4 (by decide) ?_
    refine W.widen (k := 0) (n := 0) (Nat.le_of_ble_eq_true rfl) (Nat.le_of_ble_eq_true rfl) ?_
    exact fi_i () hx hb hr hlocks hK (hP.sub [0] rfl) (hD.sub [0] (by decide) rfl) hS (pf_X4_table_2 d c_1) dX4_table_6

theorem iw_X4_plans_0_4 : ∀ w ∈ wsX40, w ∈ wsX4_plans := fun w h => (List.mem_cons_of_mem _ (List.mem_append_right _ h))
theorem wd_X4_plans_0_1 : (.fieldLink RX4 67 "PourPlanModel" "pieces" "I" : Cond) ∈ wsX4_plans := List.mem_of_getElem? (i := 1) rfl
theorem wd_X4_plans_0_3 : (.fieldLink RX4 118 "PourPlanModel" "now" "I" : Cond) ∈ wsX4_plans := List.mem_of_getElem? (i := 3) rfl
set_option maxHeartbeats 1000000 in
theorem pf_X4_plans_0_1 (n_41 : Nat) (k : Int32) (hn_41 : 40 - k.toNatClampNeg < n_41 + 1) (hk0 : 0 ≤ k) (c_2 : 40 ≤ k) : (0 : Int32) = 0 := by
  grind
set_option maxHeartbeats 1000000 in
theorem pf_X4_plans_0_2 (n_41 : Nat) (k : Int32) (v_5 : Int32) (hn_41 : 40 - k.toNatClampNeg < n_41 + 1) (hk0 : 0 ≤ k) (c_2 : ¬ 40 ≤ k) (ev_5 : v_5 = k + 1) : 40 - v_5.toNatClampNeg < n_41 := by
  exact ms_dec (k := k) (by grind) (by assumption) (by omega) (by assumption) hn_41
set_option maxHeartbeats 1000000 in
theorem pf_X4_plans_0_3 (n_41 : Nat) (k : Int32) (v_5 : Int32) (hn_41 : 40 - k.toNatClampNeg < n_41 + 1) (hk0 : 0 ≤ k) (c_2 : ¬ 40 ≤ k) (ev_5 : v_5 = k + 1) : 0 ≤ v_5 := by
  grind
set_option maxHeartbeats 1000000 in
theorem pf_X4_plans_0_4   : 0 ≤ (0 : Int32) := by
  grind
set_option maxHeartbeats 4000000 in
set_option maxRecDepth 100000 in
theorem c_X4_plans_0 (l : Launch) (D : va_G) (cI : ClassId) (sz : Nat) (y0 : Nat) (m_kind : Nat) (m_floor : Nat) (m_volume : Nat) (m_size : Nat) (m_faces : Nat) (m_when : Nat) (m_ahead : Nat) (m_order : Nat) (m_tried : Nat) (m_chosen : Nat) (m_forms : Nat) (m_warmth : Nat) (m_degrees : Nat) (m_thousandths : Nat) (m_longest : Nat) (row : Nat) : CtI l yX4_plans wsX4_plans 0 0 0 0 [.ref y0, .ref row] D [(cI, .int)] [(y0, .inr (4, [.int 0, .int 0, .int 0, .int 0, .int 100, .int 0, .int 500, .int 300, .ref m_kind, .ref m_floor, .ref m_volume, .ref m_size, .ref m_faces, .ref m_when, .ref m_ahead, .ref m_order, .ref m_tried, .ref m_chosen, .ref m_forms, .ref m_warmth, .ref m_degrees, .ref m_thousandths, .ref m_longest, .long 0, .long 0]))] sz (fun (r : Int32) (u : Unit) => r = 0) (fun (u : Unit) => [(y0, .inr (4, [.int 0, .int 0, .int 0, .int 0, .int 100, .int 0, .int 500, .int 300, .ref m_kind, .ref m_floor, .ref m_volume, .ref m_size, .ref m_faces, .ref m_when, .ref m_ahead, .ref m_order, .ref m_tried, .ref m_chosen, .ref m_forms, .ref m_warmth, .ref m_degrees, .ref m_thousandths, .ref m_longest, .long 0, .long 0]))]) := by
  refine Met.ofW (cc := cX4_plans) (maxL := 5) (ret := (some .int)) (by decide) rfl ?_
  intro p e s m args below meth c s₁ B hml hv
  obtain ⟨rfl, hsz, hP, hK, hD0, hN⟩ := hv
  have hx := B.exec
  have hb := B.bytes
  have hr := B.returns
  have hts := atoms_spec (ws := wsX4_plans) B.pre
  have hown : s.vm.findClass RX4 = some m.cls := findClass_of_methodNamed B.named
  have hlocks := B.notSynchronized
  subst hsz
  have hD := hD0.self (sz := s.heap.size)
  generalize hAe : va_A [(y0, .inr (4, [.int 0, .int 0, .int 0, .int 0, .int 100, .int 0, .int 500, .int 300, .ref m_kind, .ref m_floor, .ref m_volume, .ref m_size, .ref m_faces, .ref m_when, .ref m_ahead, .ref m_order, .ref m_tried, .ref m_chosen, .ref m_forms, .ref m_warmth, .ref m_degrees, .ref m_thousandths, .ref m_longest, .long 0, .long 0]))] s.heap.size = A at hD ⊢
  have hA : ∀ q : Nat, s.heap.size ≤ q → A q := fun q h => by rw [← hAe]; exact Or.inr h
  have hS : va_S A s.heap s.heap [] := va_S.rf
  have hl := lv_entry ([.ref y0, .ref row]) (n := 5) (Nat.le_of_ble_eq_true rfl)
  rw [lg_entry_eq]
  generalize (lg_sl ([.ref y0, .ref row]) ++ List.replicate (5 - (lg_sl ([.ref y0, .ref row])).length) Slot.unset).toArray = ls at hl ⊢
  have hl : lv_has ls 5 [(0, .ref y0), (1, .ref row)] := hl
  refine W_gen (fun GW hIn hOut => ?_)
  refine hIn _ _ _ _ _ ?_
  have hP0 := hP
  refine lv_iconst (v := 0) hx hb dX4_plans_0 (by decide) ?_
  refine lv_istore_n (lv' := [(2, .int 0), (0, .ref y0), (1, .ref row)]) hx hb dX4_plans_1 rfl hl (by decide) rfl (fun ls hl => ?_)
  refine lv_iload_n hx hb dX4_plans_2 rfl (lv_at hl 0 rfl) ?_
  refine lv_aload_n hx hb dX4_plans_3 rfl (lv_at hl 1 rfl) ?_
  refine va_get (D := D) (ci := 4) (v := .int 0) (C := RX4) (T := TX4) (N := 25) hx hb hts iw_X4_plans_0_4 hown hK hP 0 rfl rfl 0 (by decide) (hts _ wd_X4_plans_0_1) (fun _ h9 => h9) rfl dX4_plans_4 ?_
  refine lv_icmp_ge (tgt := 36) hx hb dX4_plans_7 (by decide) (fun _ => ?_) (fun h => absurd (by decide) h)
  refine lv_aload_n hx hb dX4_plans_36 rfl (lv_at hl 1 rfl) ?_
  refine va_get (D := D) (ci := 4) (v := .int 0) (C := RX4) (T := TX4) (N := 25) hx hb hts iw_X4_plans_0_4 hown hK hP 0 rfl rfl 2 (by decide) (hts _ wd_X4_plans_0_3) (fun _ h9 => h9) rfl dX4_plans_37 ?_
  refine lv_istore_n (lv' := [(2, .int 0), (0, .ref y0), (1, .ref row)]) hx hb dX4_plans_40 rfl hl (by decide) rfl (fun ls hl => ?_)
  have lp_41 : ∀ (n : Nat) (k : Int32) (H : Heap) (locs : List Loc) (ls : Array Slot), 40 - k.toNatClampNeg < n → (0 ≤ k) → va_P D vwCl [(y0, .inr (4, [.int 0, .int 0, .int 0, .int 0, .int 100, .int 0, .int 500, .int 300, .ref m_kind, .ref m_floor, .ref m_volume, .ref m_size, .ref m_faces, .ref m_when, .ref m_ahead, .ref m_order, .ref m_tried, .ref m_chosen, .ref m_forms, .ref m_warmth, .ref m_degrees, .ref m_thousandths, .ref m_longest, .long 0, .long 0]))] H → va_D A [(y0, .inr (4, [.int 0, .int 0, .int 0, .int 0, .int 100, .int 0, .int 500, .int 300, .ref m_kind, .ref m_floor, .ref m_volume, .ref m_size, .ref m_faces, .ref m_when, .ref m_ahead, .ref m_order, .ref m_tried, .ref m_chosen, .ref m_forms, .ref m_warmth, .ref m_degrees, .ref m_thousandths, .ref m_longest, .long 0, .long 0]))] → va_S A s.heap H locs → lv_has ls 5 [(0, .ref y0), (1, .ref row), (2, .int k)] → GW H locs 0 0 (F0 m 41 ls []) := by
    intro n_41
    induction n_41 with
    | zero => intro k H locs ls hn_41; exact absurd hn_41 (Nat.not_lt_zero _)
    | succ n_41 ih_41 =>
      intro k H locs ls hn_41 hk0 hP hD hS hl
      refine hIn _ _ _ _ _ ?_
      refine lv_iload_n hx hb dX4_plans_41 rfl (lv_at hl 2 rfl) ?_
      refine lv_bipush (v := 40) hx hb dX4_plans_42 (by decide) ?_
      refine lv_icmp_ge (tgt := 103) hx hb dX4_plans_44 (by decide) (fun c_2 => ?_) (fun c_2 => ?_)
      · refine lv_iconst (v := 0) hx hb dX4_plans_103 (by decide) ?_
        refine lv_istore_n (lv' := [(2, .int 0), (0, .ref y0), (1, .ref row)]) hx hb dX4_plans_104 rfl hl (by decide) rfl (fun ls hl => ?_)
        refine lv_iconst (v := 0) hx hb dX4_plans_105 (by decide) ?_
        refine lv_istore_n (lv' := [(3, .int 0), (2, .int 0), (0, .ref y0), (1, .ref row)]) hx hb dX4_plans_106 rfl hl (by decide) rfl (fun ls hl => ?_)
        refine lv_iload_n hx hb dX4_plans_107 rfl (lv_at hl 0 rfl) ?_
        refine lv_aload_n hx hb dX4_plans_108 rfl (lv_at hl 2 rfl) ?_
        refine va_get (D := D) (ci := 4) (v := .int 0) (C := RX4) (T := TX4) (N := 25) hx hb hts iw_X4_plans_0_4 hown hK hP 0 rfl rfl 0 (by decide) (hts _ wd_X4_plans_0_1) (fun _ h9 => h9) rfl dX4_plans_109 ?_
        refine lv_icmp_ge (tgt := 157) hx hb dX4_plans_112 (by decide) (fun _ => ?_) (fun h => absurd (by decide) h)
        refine lv_iload_n hx hb dX4_plans_157 rfl (lv_at hl 1 rfl) ?_
        refine W.widen (k := 0) (n := 0) (Nat.le_of_ble_eq_true rfl) (Nat.le_of_ble_eq_true rfl) ?_
        exact fi_i () hx hb hr hlocks hK (hP.sub [0] rfl) (hD.sub [0] (by decide) rfl) hS (pf_X4_plans_0_1 n_41 k hn_41 hk0 c_2) dX4_plans_158
      · refine lv_iconst (v := 0) hx hb dX4_plans_47 (by decide) ?_
        refine lv_istore_n (lv' := [(3, .int 0), (0, .ref y0), (1, .ref row), (2, .int k)]) hx hb dX4_plans_48 rfl hl (by decide) rfl (fun ls hl => ?_)
        refine lv_iload_n hx hb dX4_plans_49 rfl (lv_at hl 0 rfl) ?_
        refine lv_aload_n hx hb dX4_plans_50 rfl (lv_at hl 1 rfl) ?_
        refine va_get (D := D) (ci := 4) (v := .int 0) (C := RX4) (T := TX4) (N := 25) hx hb hts iw_X4_plans_0_4 hown hK hP 0 rfl rfl 0 (by decide) (hts _ wd_X4_plans_0_1) (fun _ h9 => h9) rfl dX4_plans_51 ?_
        refine lv_icmp_ge (tgt := 97) hx hb dX4_plans_54 (by decide) (fun _ => ?_) (fun h => absurd (by decide) h)
        obtain ⟨v_5, ev_5⟩ : ∃ y : Int32, y = k + 1 := ⟨_, rfl⟩
        refine lv_iinc (v := v_5) (lv' := [(2, .int v_5), (3, .int 0), (0, .ref y0), (1, .ref row)]) hx hb dX4_plans_97 hl (k := 3) rfl (by rw [ev_5]; rfl) (by decide) rfl (fun ls hl => ?_)
        refine lv_goto (tgt := 41) hx hb dX4_plans_100 (by decide) ?_
        exact hOut _ _ _ _ _ (ih_41 v_5 _ _ _ (pf_X4_plans_0_2 n_41 k v_5 hn_41 hk0 c_2 ev_5) (pf_X4_plans_0_3 n_41 k v_5 hn_41 hk0 c_2 ev_5) (hP.sub [0] rfl) (hD.sub [0] (by decide) rfl) hS (lv_sub hl [2, 3, 0] rfl))
  exact hOut _ _ _ _ _ (lp_41 (40 - (0 : Int32).toNatClampNeg + 1) 0 _ _ _ (Nat.lt_succ_self _) (pf_X4_plans_0_4) (hP.sub [0] rfl) (hD.sub [0] (by decide) rfl) hS (lv_sub hl [1, 2, 0] rfl))

theorem iw_X4_plan_4 : ∀ w ∈ wsX40, w ∈ wsX4_plan := fun w h => (List.mem_cons_of_mem _ (List.mem_append_right _ h))
theorem wd_X4_plan_1 : (.fieldLink RX4 43 "PourPlanModel" "order" "[I" : Cond) ∈ wsX4_plan := List.mem_of_getElem? (i := 1) rfl
theorem wd_X4_plan_2 : (.fieldLink RX4 128 "PourPlanModel" "end" "I" : Cond) ∈ wsX4_plan := List.mem_of_getElem? (i := 2) rfl
set_option maxHeartbeats 1000000 in
theorem pf_X4_plan_1 (r_1 : Int32) (w_2 : r_1 = 0) : r_1 = 0 := by
  grind
set_option maxHeartbeats 4000000 in
set_option maxRecDepth 100000 in
theorem c_X4_plan (l : Launch) (D : va_G) (cI : ClassId) (sz : Nat) (y0 : Nat) (m_kind : Nat) (m_floor : Nat) (m_volume : Nat) (m_size : Nat) (m_faces : Nat) (m_when : Nat) (m_ahead : Nat) (m_order : Nat) (m_tried : Nat) (m_chosen : Nat) (m_forms : Nat) (m_warmth : Nat) (m_degrees : Nat) (m_thousandths : Nat) (m_longest : Nat) : CtI l yX4_plan wsX4_plan 1 24 0 0 [.ref y0] D [(cI, .int)] [(y0, .inr (4, [.int 0, .int 0, .int 0, .int 0, .int 100, .int 0, .int 500, .int 300, .ref m_kind, .ref m_floor, .ref m_volume, .ref m_size, .ref m_faces, .ref m_when, .ref m_ahead, .ref m_order, .ref m_tried, .ref m_chosen, .ref m_forms, .ref m_warmth, .ref m_degrees, .ref m_thousandths, .ref m_longest, .long 0, .long 0]))] sz (fun (r : Int32) (u : Int32) => r = 0) (fun (u : Int32) => [(y0, .inr (4, [.int 0, .int 0, .int 0, .int u, .int 100, .int 0, .int 500, .int 300, .ref m_kind, .ref m_floor, .ref m_volume, .ref m_size, .ref m_faces, .ref m_when, .ref m_ahead, .ref m_order, .ref m_tried, .ref m_chosen, .ref m_forms, .ref m_warmth, .ref m_degrees, .ref m_thousandths, .ref m_longest, .long 0, .long 0]))]) := by
  refine Met.ofW (cc := cX4_plan) (maxL := 1) (ret := (some .int)) (by decide) rfl ?_
  intro p e s m args below meth c s₁ B hml hv
  obtain ⟨rfl, hsz, hP, hK, hD0, hN⟩ := hv
  have hx := B.exec
  have hb := B.bytes
  have hr := B.returns
  have hts := atoms_spec (ws := wsX4_plan) B.pre
  have hown : s.vm.findClass RX4 = some m.cls := findClass_of_methodNamed B.named
  have hlocks := B.notSynchronized
  subst hsz
  have hD := hD0.self (sz := s.heap.size)
  generalize hAe : va_A [(y0, .inr (4, [.int 0, .int 0, .int 0, .int 0, .int 100, .int 0, .int 500, .int 300, .ref m_kind, .ref m_floor, .ref m_volume, .ref m_size, .ref m_faces, .ref m_when, .ref m_ahead, .ref m_order, .ref m_tried, .ref m_chosen, .ref m_forms, .ref m_warmth, .ref m_degrees, .ref m_thousandths, .ref m_longest, .long 0, .long 0]))] s.heap.size = A at hD ⊢
  have hA : ∀ q : Nat, s.heap.size ≤ q → A q := fun q h => by rw [← hAe]; exact Or.inr h
  have hS : va_S A s.heap s.heap [] := va_S.rf
  have hl := lv_entry ([.ref y0]) (n := 1) (Nat.le_of_ble_eq_true rfl)
  rw [lg_entry_eq]
  generalize (lg_sl ([.ref y0]) ++ List.replicate (1 - (lg_sl ([.ref y0])).length) Slot.unset).toArray = ls at hl ⊢
  have hl : lv_has ls 1 [(0, .ref y0)] := hl
  have hP0 := hP
  refine lv_aload_n hx hb dX4_plan_0 rfl (lv_at hl 0 rfl) ?_
  refine lv_aload_n hx hb dX4_plan_1 rfl (lv_at hl 0 rfl) ?_
  refine lv_aload_n hx hb dX4_plan_2 rfl (lv_at hl 0 rfl) ?_
  refine va_get (D := D) (ci := 4) (v := .ref m_order) (C := RX4) (T := TX4) (N := 25) hx hb hts iw_X4_plan_4 hown hK hP 0 rfl rfl 15 (by decide) (hts _ wd_X4_plan_1) (fun _ h9 => h9) rfl dX4_plan_3 ?_
  refine cc_i (wc := [(y0, .inr (4, [.int 0, .int 0, .int 0, .int 0, .int 100, .int 0, .int 500, .int 300, .ref m_kind, .ref m_floor, .ref m_volume, .ref m_size, .ref m_faces, .ref m_when, .ref m_ahead, .ref m_order, .ref m_tried, .ref m_chosen, .ref m_forms, .ref m_warmth, .ref m_degrees, .ref m_thousandths, .ref m_longest, .long 0, .long 0]))]) (wr := []) (va_runV (As := [.ref m_order]) (rest := [.ref y0]) ⟨hx, hb, hml, hown, hts⟩ (c_X4_plans_0 l D cI s.heap.size y0 m_kind m_floor m_volume m_size m_faces m_when m_ahead m_order m_tried m_chosen m_forms m_warmth m_degrees m_thousandths m_longest m_order ) (cwV 1 hts gX4_plan_X4_plans rfl rfl rfl (by decide +kernel) ⟨Nat.le_of_ble_eq_true rfl, Nat.le_of_ble_eq_true rfl⟩) (preV (wc := [(y0, .inr (4, [.int 0, .int 0, .int 0, .int 0, .int 100, .int 0, .int 500, .int 300, .ref m_kind, .ref m_floor, .ref m_volume, .ref m_size, .ref m_faces, .ref m_when, .ref m_ahead, .ref m_order, .ref m_tried, .ref m_chosen, .ref m_forms, .ref m_warmth, .ref m_degrees, .ref m_thousandths, .ref m_longest, .long 0, .long 0]))]) (ci := 4) (q0 := 0) hK hP hD hN [0] rfl (by decide) rfl rfl) rfl rfl hl.1 rfl (lv_room (Nat.le_of_ble_eq_true rfl)) dX4_plan_6 ⟨Nat.le_of_ble_eq_true rfl, Nat.le_of_ble_eq_true rfl⟩) hP hD hS hA [0] [] rfl rfl (by decide) (by decide) (fun r_1 u H locs w_2 hP hD hS => ?_)
  have hP : va_P D vwCl [(y0, .inr (4, [.int 0, .int 0, .int 0, .int 0, .int 100, .int 0, .int 500, .int 300, .ref m_kind, .ref m_floor, .ref m_volume, .ref m_size, .ref m_faces, .ref m_when, .ref m_ahead, .ref m_order, .ref m_tried, .ref m_chosen, .ref m_forms, .ref m_warmth, .ref m_degrees, .ref m_thousandths, .ref m_longest, .long 0, .long 0]))] H := hP
  have hD : va_D A [(y0, .inr (4, [.int 0, .int 0, .int 0, .int 0, .int 100, .int 0, .int 500, .int 300, .ref m_kind, .ref m_floor, .ref m_volume, .ref m_size, .ref m_faces, .ref m_when, .ref m_ahead, .ref m_order, .ref m_tried, .ref m_chosen, .ref m_forms, .ref m_warmth, .ref m_degrees, .ref m_thousandths, .ref m_longest, .long 0, .long 0]))] := hD
  have w_2 : r_1 = 0 := w_2
  refine va_put (D := D) (ci := 4) (v := .int r_1) (ty := .int) (C := RX4) (T := TX4) (N := 25) hx hb hts iw_X4_plan_4 tyX4 tyX4_ok nmX4 hown hK hP hD hS 0 rfl rfl 3 (by decide) (hts _ wd_X4_plan_2) (fun _ h9 => h9) rfl (by decide +kernel) rfl rfl (Nat.le_of_ble_eq_true rfl) dX4_plan_9 (fun H locs hP hD hS => ?_)
  have hP : va_P D vwCl [(y0, .inr (4, [.int 0, .int 0, .int 0, .int r_1, .int 100, .int 0, .int 500, .int 300, .ref m_kind, .ref m_floor, .ref m_volume, .ref m_size, .ref m_faces, .ref m_when, .ref m_ahead, .ref m_order, .ref m_tried, .ref m_chosen, .ref m_forms, .ref m_warmth, .ref m_degrees, .ref m_thousandths, .ref m_longest, .long 0, .long 0]))] H := hP
  have hD : va_D A [(y0, .inr (4, [.int 0, .int 0, .int 0, .int r_1, .int 100, .int 0, .int 500, .int 300, .ref m_kind, .ref m_floor, .ref m_volume, .ref m_size, .ref m_faces, .ref m_when, .ref m_ahead, .ref m_order, .ref m_tried, .ref m_chosen, .ref m_forms, .ref m_warmth, .ref m_degrees, .ref m_thousandths, .ref m_longest, .long 0, .long 0]))] := hD
  refine lv_aload_n hx hb dX4_plan_12 rfl (lv_at hl 0 rfl) ?_
  refine va_get (D := D) (ci := 4) (v := .int r_1) (C := RX4) (T := TX4) (N := 25) hx hb hts iw_X4_plan_4 hown hK hP 0 rfl rfl 3 (by decide) (hts _ wd_X4_plan_2) (fun _ h9 => h9) rfl dX4_plan_13 ?_
  refine W.widen (k := 0) (n := 0) (Nat.le_of_ble_eq_true rfl) (Nat.le_of_ble_eq_true rfl) ?_
  exact fi_i r_1 hx hb hr hlocks hK (hP.sub [0] rfl) (hD.sub [0] (by decide) rfl) hS (pf_X4_plan_1 r_1 w_2) dX4_plan_16

set_option maxHeartbeats 1000000 in
theorem pf_X4_order_1 (r_1 : Int32) (w_2 : r_1 = 0) (c_4 : ¬ r_1 = 0) : False := by
  grind
set_option maxHeartbeats 1000000 in
theorem pf_X4_order_2 (r_1 : Int32) (w_2 : r_1 = 0) (c_4 : r_1 = 0) : (-1 : Int32) = -1 := by
  grind
set_option maxHeartbeats 4000000 in
set_option maxRecDepth 100000 in
theorem c_X4_order (l : Launch) (D : va_G) (cI : ClassId) (sz : Nat) (y0 : Nat) (m_kind : Nat) (m_floor : Nat) (m_volume : Nat) (m_size : Nat) (m_faces : Nat) (m_when : Nat) (m_ahead : Nat) (m_order : Nat) (m_tried : Nat) (m_chosen : Nat) (m_forms : Nat) (m_warmth : Nat) (m_degrees : Nat) (m_thousandths : Nat) (m_longest : Nat) (a : Int32) (i1 : Int32) : CtI l yX4_order wsX4_order 1 21 0 0 [.ref y0, .int a, .int i1] D [(cI, .int)] [(y0, .inr (4, [.int 0, .int 0, .int 0, .int 0, .int 100, .int 0, .int 500, .int 300, .ref m_kind, .ref m_floor, .ref m_volume, .ref m_size, .ref m_faces, .ref m_when, .ref m_ahead, .ref m_order, .ref m_tried, .ref m_chosen, .ref m_forms, .ref m_warmth, .ref m_degrees, .ref m_thousandths, .ref m_longest, .long 0, .long 0]))] sz (fun (r : Int32) (u : Unit) => r = -1) (fun (u : Unit) => [(y0, .inr (4, [.int 0, .int 0, .int 0, .int 0, .int 100, .int 0, .int 500, .int 300, .ref m_kind, .ref m_floor, .ref m_volume, .ref m_size, .ref m_faces, .ref m_when, .ref m_ahead, .ref m_order, .ref m_tried, .ref m_chosen, .ref m_forms, .ref m_warmth, .ref m_degrees, .ref m_thousandths, .ref m_longest, .long 0, .long 0]))]) := by
  refine Met.ofW (cc := cX4_order) (maxL := 5) (ret := (some .int)) (by decide) rfl ?_
  intro p e s m args below meth c s₁ B hml hv
  obtain ⟨rfl, hsz, hP, hK, hD0, hN⟩ := hv
  have hx := B.exec
  have hb := B.bytes
  have hr := B.returns
  have hts := atoms_spec (ws := wsX4_order) B.pre
  have hown : s.vm.findClass RX4 = some m.cls := findClass_of_methodNamed B.named
  have hlocks := B.notSynchronized
  subst hsz
  have hD := hD0.self (sz := s.heap.size)
  generalize hAe : va_A [(y0, .inr (4, [.int 0, .int 0, .int 0, .int 0, .int 100, .int 0, .int 500, .int 300, .ref m_kind, .ref m_floor, .ref m_volume, .ref m_size, .ref m_faces, .ref m_when, .ref m_ahead, .ref m_order, .ref m_tried, .ref m_chosen, .ref m_forms, .ref m_warmth, .ref m_degrees, .ref m_thousandths, .ref m_longest, .long 0, .long 0]))] s.heap.size = A at hD ⊢
  have hA : ∀ q : Nat, s.heap.size ≤ q → A q := fun q h => by rw [← hAe]; exact Or.inr h
  have hS : va_S A s.heap s.heap [] := va_S.rf
  have hl := lv_entry ([.ref y0, .int a, .int i1]) (n := 5) (Nat.le_of_ble_eq_true rfl)
  rw [lg_entry_eq]
  generalize (lg_sl ([.ref y0, .int a, .int i1]) ++ List.replicate (5 - (lg_sl ([.ref y0, .int a, .int i1])).length) Slot.unset).toArray = ls at hl ⊢
  have hl : lv_has ls 5 [(0, .ref y0), (1, .int a), (2, .int i1)] := hl
  have hP0 := hP
  refine lv_aload_n hx hb dX4_order_0 rfl (lv_at hl 0 rfl) ?_
  refine lv_iload_n hx hb dX4_order_1 rfl (lv_at hl 1 rfl) ?_
  refine cc_i (wc := [(y0, .inr (4, [.int 0, .int 0, .int 0, .int 0, .int 100, .int 0, .int 500, .int 300, .ref m_kind, .ref m_floor, .ref m_volume, .ref m_size, .ref m_faces, .ref m_when, .ref m_ahead, .ref m_order, .ref m_tried, .ref m_chosen, .ref m_forms, .ref m_warmth, .ref m_degrees, .ref m_thousandths, .ref m_longest, .long 0, .long 0]))]) (wr := []) (va_runV (As := [.int a]) (rest := []) ⟨hx, hb, hml, hown, hts⟩ (c_X4_isPiece_0 l D cI s.heap.size y0 m_kind m_floor m_volume m_size m_faces m_when m_ahead m_order m_tried m_chosen m_forms m_warmth m_degrees m_thousandths m_longest a ) (cwV 1 hts gX4_order_X4_isPiece rfl rfl rfl (by decide +kernel) ⟨Nat.le_of_ble_eq_true rfl, Nat.le_of_ble_eq_true rfl⟩) (preV (wc := [(y0, .inr (4, [.int 0, .int 0, .int 0, .int 0, .int 100, .int 0, .int 500, .int 300, .ref m_kind, .ref m_floor, .ref m_volume, .ref m_size, .ref m_faces, .ref m_when, .ref m_ahead, .ref m_order, .ref m_tried, .ref m_chosen, .ref m_forms, .ref m_warmth, .ref m_degrees, .ref m_thousandths, .ref m_longest, .long 0, .long 0]))]) (ci := 4) (q0 := 0) hK hP hD hN [0] rfl (by decide) rfl rfl) rfl rfl hl.1 rfl (lv_room (Nat.le_of_ble_eq_true rfl)) dX4_order_2 ⟨Nat.le_of_ble_eq_true rfl, Nat.le_of_ble_eq_true rfl⟩) hP hD hS hA [0] [] rfl rfl (by decide) (by decide) (fun r_1 u H locs w_2 hP hD hS => ?_)
  have hP : va_P D vwCl [(y0, .inr (4, [.int 0, .int 0, .int 0, .int 0, .int 100, .int 0, .int 500, .int 300, .ref m_kind, .ref m_floor, .ref m_volume, .ref m_size, .ref m_faces, .ref m_when, .ref m_ahead, .ref m_order, .ref m_tried, .ref m_chosen, .ref m_forms, .ref m_warmth, .ref m_degrees, .ref m_thousandths, .ref m_longest, .long 0, .long 0]))] H := hP
  have hD : va_D A [(y0, .inr (4, [.int 0, .int 0, .int 0, .int 0, .int 100, .int 0, .int 500, .int 300, .ref m_kind, .ref m_floor, .ref m_volume, .ref m_size, .ref m_faces, .ref m_when, .ref m_ahead, .ref m_order, .ref m_tried, .ref m_chosen, .ref m_forms, .ref m_warmth, .ref m_degrees, .ref m_thousandths, .ref m_longest, .long 0, .long 0]))] := hD
  have w_2 : r_1 = 0 := w_2
  refine lv_if_eq (tgt := 20) hx hb dX4_order_5 (by decide) (fun c_4 => ?_) (fun c_4 => absurd (pf_X4_order_1 r_1 w_2 c_4) id)
  refine lv_iconst (v := (-1)) hx hb dX4_order_20 (by decide) ?_
  refine W.widen (k := 0) (n := 0) (Nat.le_of_ble_eq_true rfl) (Nat.le_of_ble_eq_true rfl) ?_
  exact fi_i () hx hb hr hlocks hK (hP.sub [0] rfl) (hD.sub [0] (by decide) rfl) hS (pf_X4_order_2 r_1 w_2 c_4) dX4_order_21

theorem iw_X4_best_4 : ∀ w ∈ wsX40, w ∈ wsX4_best := fun w h => (List.mem_cons_of_mem _ (List.mem_append_right _ h))
theorem wd_X4_best_1 : (.fieldLink RX4 67 "PourPlanModel" "pieces" "I" : Cond) ∈ wsX4_best := List.mem_of_getElem? (i := 1) rfl
set_option maxHeartbeats 1000000 in
theorem pf_X4_best_1   : (-3 : Int32) = -3 := by
  grind
set_option maxHeartbeats 4000000 in
set_option maxRecDepth 100000 in
theorem c_X4_best (l : Launch) (D : va_G) (cI : ClassId) (sz : Nat) (y0 : Nat) (m_kind : Nat) (m_floor : Nat) (m_volume : Nat) (m_size : Nat) (m_faces : Nat) (m_when : Nat) (m_ahead : Nat) (m_order : Nat) (m_tried : Nat) (m_chosen : Nat) (m_forms : Nat) (m_warmth : Nat) (m_degrees : Nat) (m_thousandths : Nat) (m_longest : Nat) : CtI l yX4_best wsX4_best 0 0 0 0 [.ref y0] D [(cI, .int)] [(y0, .inr (4, [.int 0, .int 0, .int 0, .int 0, .int 100, .int 0, .int 500, .int 300, .ref m_kind, .ref m_floor, .ref m_volume, .ref m_size, .ref m_faces, .ref m_when, .ref m_ahead, .ref m_order, .ref m_tried, .ref m_chosen, .ref m_forms, .ref m_warmth, .ref m_degrees, .ref m_thousandths, .ref m_longest, .long 0, .long 0]))] sz (fun (r : Int32) (u : Unit) => r = -3) (fun (u : Unit) => [(y0, .inr (4, [.int 0, .int 0, .int 0, .int 0, .int 100, .int 0, .int 500, .int 300, .ref m_kind, .ref m_floor, .ref m_volume, .ref m_size, .ref m_faces, .ref m_when, .ref m_ahead, .ref m_order, .ref m_tried, .ref m_chosen, .ref m_forms, .ref m_warmth, .ref m_degrees, .ref m_thousandths, .ref m_longest, .long 0, .long 0]))]) := by
  refine Met.ofW (cc := cX4_best) (maxL := 8) (ret := (some .int)) (by decide) rfl ?_
  intro p e s m args below meth c s₁ B hml hv
  obtain ⟨rfl, hsz, hP, hK, hD0, hN⟩ := hv
  have hx := B.exec
  have hb := B.bytes
  have hr := B.returns
  have hts := atoms_spec (ws := wsX4_best) B.pre
  have hown : s.vm.findClass RX4 = some m.cls := findClass_of_methodNamed B.named
  have hlocks := B.notSynchronized
  subst hsz
  have hD := hD0.self (sz := s.heap.size)
  generalize hAe : va_A [(y0, .inr (4, [.int 0, .int 0, .int 0, .int 0, .int 100, .int 0, .int 500, .int 300, .ref m_kind, .ref m_floor, .ref m_volume, .ref m_size, .ref m_faces, .ref m_when, .ref m_ahead, .ref m_order, .ref m_tried, .ref m_chosen, .ref m_forms, .ref m_warmth, .ref m_degrees, .ref m_thousandths, .ref m_longest, .long 0, .long 0]))] s.heap.size = A at hD ⊢
  have hA : ∀ q : Nat, s.heap.size ≤ q → A q := fun q h => by rw [← hAe]; exact Or.inr h
  have hS : va_S A s.heap s.heap [] := va_S.rf
  have hl := lv_entry ([.ref y0]) (n := 8) (Nat.le_of_ble_eq_true rfl)
  rw [lg_entry_eq]
  generalize (lg_sl ([.ref y0]) ++ List.replicate (8 - (lg_sl ([.ref y0])).length) Slot.unset).toArray = ls at hl ⊢
  have hl : lv_has ls 8 [(0, .ref y0)] := hl
  have hP0 := hP
  refine lv_aload_n hx hb dX4_best_0 rfl (lv_at hl 0 rfl) ?_
  refine va_get (D := D) (ci := 4) (v := .int 0) (C := RX4) (T := TX4) (N := 25) hx hb hts iw_X4_best_4 hown hK hP 0 rfl rfl 0 (by decide) (hts _ wd_X4_best_1) (fun _ h9 => h9) rfl dX4_best_1 ?_
  refine lv_if_eq (tgt := 15) hx hb dX4_best_4 (by decide) (fun _ => ?_) (fun h => absurd (by decide) h)
  refine lv_bipush (v := (-3)) hx hb dX4_best_15 (by decide) ?_
  refine W.widen (k := 0) (n := 0) (Nat.le_of_ble_eq_true rfl) (Nat.le_of_ble_eq_true rfl) ?_
  exact fi_i () hx hb hr hlocks hK (hP.sub [0] rfl) (hD.sub [0] (by decide) rfl) hS (pf_X4_best_1) dX4_best_17

theorem iw_X4_better_4 : ∀ w ∈ wsX40, w ∈ wsX4_better := fun w h => (List.mem_cons_of_mem _ (List.mem_append_right _ h))
theorem wd_X4_better_1 : (.fieldLink RX4 43 "PourPlanModel" "order" "[I" : Cond) ∈ wsX4_better := List.mem_of_getElem? (i := 1) rfl
theorem wd_X4_better_2 : (.fieldLink RX4 67 "PourPlanModel" "pieces" "I" : Cond) ∈ wsX4_better := List.mem_of_getElem? (i := 2) rfl
set_option maxHeartbeats 1000000 in
theorem pf_X4_better_1 (r_3 : Int32) (v_6 : Int32) (w_4 : r_3 = 0) (ev_6 : v_6 = 0 + 1) (c_7 : ¬ 0 ≤ v_6) : False := by
  grind
set_option maxHeartbeats 1000000 in
theorem pf_X4_better_2 (r_3 : Int32) (v_6 : Int32) (r_10 : Int32) (w_4 : r_3 = 0) (ev_6 : v_6 = 0 + 1) (c_7 : 0 ≤ v_6) (w_11 : r_10 = 0) : (0 : Int32) = 0 := by
  grind
set_option maxHeartbeats 4000000 in
set_option maxRecDepth 100000 in
theorem c_X4_better (l : Launch) (D : va_G) (cI : ClassId) (sz : Nat) (y0 : Nat) (m_kind : Nat) (m_floor : Nat) (m_volume : Nat) (m_size : Nat) (m_faces : Nat) (m_when : Nat) (m_ahead : Nat) (m_order : Nat) (m_tried : Nat) (m_chosen : Nat) (m_forms : Nat) (m_warmth : Nat) (m_degrees : Nat) (m_thousandths : Nat) (m_longest : Nat) : CtI l yX4_better wsX4_better 2 44 0 0 [.ref y0] D [(cI, .int)] [(y0, .inr (4, [.int 0, .int 0, .int 0, .int 0, .int 100, .int 0, .int 500, .int 300, .ref m_kind, .ref m_floor, .ref m_volume, .ref m_size, .ref m_faces, .ref m_when, .ref m_ahead, .ref m_order, .ref m_tried, .ref m_chosen, .ref m_forms, .ref m_warmth, .ref m_degrees, .ref m_thousandths, .ref m_longest, .long 0, .long 0]))] sz (fun (r : Int32) (u : Int32) => r = 0) (fun (u : Int32) => [(y0, .inr (4, [.int 0, .int 0, .int 0, .int u, .int 100, .int 0, .int 500, .int 300, .ref m_kind, .ref m_floor, .ref m_volume, .ref m_size, .ref m_faces, .ref m_when, .ref m_ahead, .ref m_order, .ref m_tried, .ref m_chosen, .ref m_forms, .ref m_warmth, .ref m_degrees, .ref m_thousandths, .ref m_longest, .long 0, .long 0]))]) := by
  refine Met.ofW (cc := cX4_better) (maxL := 6) (ret := (some .int)) (by decide) rfl ?_
  intro p e s m args below meth c s₁ B hml hv
  obtain ⟨rfl, hsz, hP, hK, hD0, hN⟩ := hv
  have hx := B.exec
  have hb := B.bytes
  have hr := B.returns
  have hts := atoms_spec (ws := wsX4_better) B.pre
  have hown : s.vm.findClass RX4 = some m.cls := findClass_of_methodNamed B.named
  have hlocks := B.notSynchronized
  subst hsz
  have hD := hD0.self (sz := s.heap.size)
  generalize hAe : va_A [(y0, .inr (4, [.int 0, .int 0, .int 0, .int 0, .int 100, .int 0, .int 500, .int 300, .ref m_kind, .ref m_floor, .ref m_volume, .ref m_size, .ref m_faces, .ref m_when, .ref m_ahead, .ref m_order, .ref m_tried, .ref m_chosen, .ref m_forms, .ref m_warmth, .ref m_degrees, .ref m_thousandths, .ref m_longest, .long 0, .long 0]))] s.heap.size = A at hD ⊢
  have hA : ∀ q : Nat, s.heap.size ≤ q → A q := fun q h => by rw [← hAe]; exact Or.inr h
  have hS : va_S A s.heap s.heap [] := va_S.rf
  have hl := lv_entry ([.ref y0]) (n := 6) (Nat.le_of_ble_eq_true rfl)
  rw [lg_entry_eq]
  generalize (lg_sl ([.ref y0]) ++ List.replicate (6 - (lg_sl ([.ref y0])).length) Slot.unset).toArray = ls at hl ⊢
  have hl : lv_has ls 6 [(0, .ref y0)] := hl
  have hP0 := hP
  refine lv_iconst (v := 0) hx hb dX4_better_0 (by decide) ?_
  refine lv_istore_n (lv' := [(1, .int 0), (0, .ref y0)]) hx hb dX4_better_1 rfl hl (by decide) rfl (fun ls hl => ?_)
  refine lv_iconst (v := 1) hx hb dX4_better_2 (by decide) ?_
  refine lv_istore_n (lv' := [(2, .int 1), (1, .int 0), (0, .ref y0)]) hx hb dX4_better_3 rfl hl (by decide) rfl (fun ls hl => ?_)
  refine lv_iload_n hx hb dX4_better_4 rfl (lv_at hl 0 rfl) ?_
  refine lv_if_eq (tgt := 137) hx hb dX4_better_5 (by decide) (fun h => absurd h (by decide)) (fun _ => ?_)
  refine lv_iload_n hx hb dX4_better_8 rfl (lv_at hl 1 rfl) ?_
  refine lv_bipush (v := 10) hx hb dX4_better_9 (by decide) ?_
  refine lv_icmp_ge (tgt := 137) hx hb dX4_better_11 (by decide) (fun h => absurd h (by decide)) (fun _ => ?_)
  refine lv_iconst (v := 0) hx hb dX4_better_14 (by decide) ?_
  refine lv_istore_n (lv' := [(2, .int 0), (1, .int 0), (0, .ref y0)]) hx hb dX4_better_15 rfl hl (by decide) rfl (fun ls hl => ?_)
  refine lv_aload_n hx hb dX4_better_16 rfl (lv_at hl 2 rfl) ?_
  refine lv_aload_n hx hb dX4_better_17 rfl (lv_at hl 2 rfl) ?_
  refine va_get (D := D) (ci := 4) (v := .ref m_order) (C := RX4) (T := TX4) (N := 25) hx hb hts iw_X4_better_4 hown hK hP 0 rfl rfl 15 (by decide) (hts _ wd_X4_better_1) (fun _ h9 => h9) rfl dX4_better_18 ?_
  refine cc_i (wc := [(y0, .inr (4, [.int 0, .int 0, .int 0, .int 0, .int 100, .int 0, .int 500, .int 300, .ref m_kind, .ref m_floor, .ref m_volume, .ref m_size, .ref m_faces, .ref m_when, .ref m_ahead, .ref m_order, .ref m_tried, .ref m_chosen, .ref m_forms, .ref m_warmth, .ref m_degrees, .ref m_thousandths, .ref m_longest, .long 0, .long 0]))]) (wr := []) (va_runV (As := [.ref m_order]) (rest := []) ⟨hx, hb, hml, hown, hts⟩ (c_X4_plans_0 l D cI s.heap.size y0 m_kind m_floor m_volume m_size m_faces m_when m_ahead m_order m_tried m_chosen m_forms m_warmth m_degrees m_thousandths m_longest m_order ) (cwV 1 hts gX4_better_X4_plans rfl rfl rfl (by decide +kernel) ⟨Nat.le_of_ble_eq_true rfl, Nat.le_of_ble_eq_true rfl⟩) (preV (wc := [(y0, .inr (4, [.int 0, .int 0, .int 0, .int 0, .int 100, .int 0, .int 500, .int 300, .ref m_kind, .ref m_floor, .ref m_volume, .ref m_size, .ref m_faces, .ref m_when, .ref m_ahead, .ref m_order, .ref m_tried, .ref m_chosen, .ref m_forms, .ref m_warmth, .ref m_degrees, .ref m_thousandths, .ref m_longest, .long 0, .long 0]))]) (ci := 4) (q0 := 0) hK hP hD hN [0] rfl (by decide) rfl rfl) rfl rfl hl.1 rfl (lv_room (Nat.le_of_ble_eq_true rfl)) dX4_better_21 ⟨Nat.le_of_ble_eq_true rfl, Nat.le_of_ble_eq_true rfl⟩) hP hD hS hA [0] [] rfl rfl (by decide) (by decide) (fun r_3 u H locs w_4 hP hD hS => ?_)
  have hP : va_P D vwCl [(y0, .inr (4, [.int 0, .int 0, .int 0, .int 0, .int 100, .int 0, .int 500, .int 300, .ref m_kind, .ref m_floor, .ref m_volume, .ref m_size, .ref m_faces, .ref m_when, .ref m_ahead, .ref m_order, .ref m_tried, .ref m_chosen, .ref m_forms, .ref m_warmth, .ref m_degrees, .ref m_thousandths, .ref m_longest, .long 0, .long 0]))] H := hP
  have hD : va_D A [(y0, .inr (4, [.int 0, .int 0, .int 0, .int 0, .int 100, .int 0, .int 500, .int 300, .ref m_kind, .ref m_floor, .ref m_volume, .ref m_size, .ref m_faces, .ref m_when, .ref m_ahead, .ref m_order, .ref m_tried, .ref m_chosen, .ref m_forms, .ref m_warmth, .ref m_degrees, .ref m_thousandths, .ref m_longest, .long 0, .long 0]))] := hD
  have w_4 : r_3 = 0 := w_4
  refine lv_istore_n (lv' := [(3, .int r_3), (2, .int 0), (1, .int 0), (0, .ref y0)]) hx hb dX4_better_24 rfl hl (by decide) rfl (fun ls hl => ?_)
  refine lv_iconst (v := 0) hx hb dX4_better_25 (by decide) ?_
  refine lv_istore (lv' := [(4, .int 0), (3, .int r_3), (2, .int 0), (1, .int 0), (0, .ref y0)]) hx hb dX4_better_26 hl (by decide) rfl (fun ls hl => ?_)
  refine lv_iload hx hb dX4_better_28 (lv_at hl 0 rfl) ?_
  refine lv_iconst (v := 1) hx hb dX4_better_30 (by decide) ?_
  refine lv_iadd hx hb dX4_better_31 ?_
  refine lv_topi (fun v_6 ev_6 => ?_)
  refine lv_aload_n hx hb dX4_better_32 rfl (lv_at hl 4 rfl) ?_
  refine va_get (D := D) (ci := 4) (v := .int 0) (C := RX4) (T := TX4) (N := 25) hx hb hts iw_X4_better_4 hown hK hP 0 rfl rfl 0 (by decide) (hts _ wd_X4_better_2) (fun _ h9 => h9) rfl dX4_better_33 ?_
  refine lv_icmp_ge (tgt := 127) hx hb dX4_better_36 (by decide) (fun c_7 => ?_) (fun c_7 => absurd (pf_X4_better_1 r_3 v_6 w_4 ev_6 c_7) id)
  refine lv_iload_n hx hb dX4_better_127 rfl (lv_at hl 2 rfl) ?_
  refine lv_if_eq (tgt := 134) hx hb dX4_better_128 (by decide) (fun _ => ?_) (fun h => absurd (by decide) h)
  refine lv_goto (tgt := 4) hx hb dX4_better_134 (by decide) ?_
  refine lv_iload_n hx hb dX4_better_4 rfl (lv_at hl 2 rfl) ?_
  refine lv_if_eq (tgt := 137) hx hb dX4_better_5 (by decide) (fun _ => ?_) (fun h => absurd (by decide) h)
  refine lv_aload_n hx hb dX4_better_137 rfl (lv_at hl 4 rfl) ?_
  refine cc_i (wc := [(y0, .inr (4, [.int 0, .int 0, .int 0, .int 0, .int 100, .int 0, .int 500, .int 300, .ref m_kind, .ref m_floor, .ref m_volume, .ref m_size, .ref m_faces, .ref m_when, .ref m_ahead, .ref m_order, .ref m_tried, .ref m_chosen, .ref m_forms, .ref m_warmth, .ref m_degrees, .ref m_thousandths, .ref m_longest, .long 0, .long 0]))]) (wr := []) (va_runV (As := []) (rest := []) ⟨hx, hb, hml, hown, hts⟩ (c_X4_plan l D cI H.size y0 m_kind m_floor m_volume m_size m_faces m_when m_ahead m_order m_tried m_chosen m_forms m_warmth m_degrees m_thousandths m_longest ) (cwV 0 hts gX4_better_X4_plan rfl rfl rfl (by decide +kernel) ⟨Nat.le_of_ble_eq_true rfl, Nat.le_of_ble_eq_true rfl⟩) (preV (wc := [(y0, .inr (4, [.int 0, .int 0, .int 0, .int 0, .int 100, .int 0, .int 500, .int 300, .ref m_kind, .ref m_floor, .ref m_volume, .ref m_size, .ref m_faces, .ref m_when, .ref m_ahead, .ref m_order, .ref m_tried, .ref m_chosen, .ref m_forms, .ref m_warmth, .ref m_degrees, .ref m_thousandths, .ref m_longest, .long 0, .long 0]))]) (ci := 4) (q0 := 0) hK hP hD hN [0] rfl (by decide) rfl rfl) rfl rfl hl.1 rfl (lv_room (Nat.le_of_ble_eq_true rfl)) dX4_better_138 ⟨Nat.le_of_ble_eq_true rfl, Nat.le_of_ble_eq_true rfl⟩) hP hD hS hA [0] [] rfl rfl (by decide) (by decide) (fun r_10 u H locs w_11 hP hD hS => ?_)
  obtain ⟨e2_12, rfl⟩ : ∃ z, z = u := ⟨_, rfl⟩
  have hP : va_P D vwCl [(y0, .inr (4, [.int 0, .int 0, .int 0, .int e2_12, .int 100, .int 0, .int 500, .int 300, .ref m_kind, .ref m_floor, .ref m_volume, .ref m_size, .ref m_faces, .ref m_when, .ref m_ahead, .ref m_order, .ref m_tried, .ref m_chosen, .ref m_forms, .ref m_warmth, .ref m_degrees, .ref m_thousandths, .ref m_longest, .long 0, .long 0]))] H := hP
  have hD : va_D A [(y0, .inr (4, [.int 0, .int 0, .int 0, .int e2_12, .int 100, .int 0, .int 500, .int 300, .ref m_kind, .ref m_floor, .ref m_volume, .ref m_size, .ref m_faces, .ref m_when, .ref m_ahead, .ref m_order, .ref m_tried, .ref m_chosen, .ref m_forms, .ref m_warmth, .ref m_degrees, .ref m_thousandths, .ref m_longest, .long 0, .long 0]))] := hD
  have w_11 : r_10 = 0 := w_11
  refine lv_pop hx hb dX4_better_141 rfl ?_
  refine lv_iload_n hx hb dX4_better_142 rfl (lv_at hl 3 rfl) ?_
  refine W.widen (k := 0) (n := 0) (Nat.le_of_ble_eq_true rfl) (Nat.le_of_ble_eq_true rfl) ?_
  exact fi_i e2_12 hx hb hr hlocks hK (hP.sub [0] rfl) (hD.sub [0] (by decide) rfl) hS (pf_X4_better_2 r_3 v_6 r_10 w_4 ev_6 c_7 w_11) dX4_better_143

theorem iw_X4_now_4 : ∀ w ∈ wsX40, w ∈ wsX4_now := fun w h => (List.mem_cons_of_mem _ (List.mem_append_right _ h))
theorem wd_X4_now_1 : (.fieldLink RX4 118 "PourPlanModel" "now" "I" : Cond) ∈ wsX4_now := List.mem_of_getElem? (i := 1) rfl
theorem wd_X4_now_2 : (.fieldLink RX4 67 "PourPlanModel" "pieces" "I" : Cond) ∈ wsX4_now := List.mem_of_getElem? (i := 2) rfl
set_option maxHeartbeats 1000000 in
theorem pf_X4_now_1 (d : Int32) (r_1 : Int32) (w_2 : r_1 = bDay d) (c_4 : ¬ r_1 = 0) (c_5 : 0 ≤ d) : (0 : Int32) = an_now d := by
  grind [an_now, bDay]
set_option maxHeartbeats 1000000 in
theorem pf_X4_now_2 (d : Int32) (r_1 : Int32) (w_2 : r_1 = bDay d) (c_4 : ¬ r_1 = 0) (c_5 : ¬ 0 ≤ d) : (-2 : Int32) = an_now d := by
  grind [an_now, bDay]
set_option maxHeartbeats 1000000 in
theorem pf_X4_now_3 (d : Int32) (r_1 : Int32) (w_2 : r_1 = bDay d) (c_4 : r_1 = 0) : (-1 : Int32) = an_now d := by
  grind [an_now, bDay]
set_option maxHeartbeats 4000000 in
set_option maxRecDepth 100000 in
theorem c_X4_now (l : Launch) (D : va_G) (cI : ClassId) (sz : Nat) (y0 : Nat) (m_kind : Nat) (m_floor : Nat) (m_volume : Nat) (m_size : Nat) (m_faces : Nat) (m_when : Nat) (m_ahead : Nat) (m_order : Nat) (m_tried : Nat) (m_chosen : Nat) (m_forms : Nat) (m_warmth : Nat) (m_degrees : Nat) (m_thousandths : Nat) (m_longest : Nat) (d : Int32) : CtI l yX4_now wsX4_now 1 20 0 0 [.ref y0, .int d] D [(cI, .int)] [(y0, .inr (4, [.int 0, .int 0, .int 0, .int 0, .int 100, .int 0, .int 500, .int 300, .ref m_kind, .ref m_floor, .ref m_volume, .ref m_size, .ref m_faces, .ref m_when, .ref m_ahead, .ref m_order, .ref m_tried, .ref m_chosen, .ref m_forms, .ref m_warmth, .ref m_degrees, .ref m_thousandths, .ref m_longest, .long 0, .long 0]))] sz (fun (r : Int32) (u : Int32) => r = an_now d) (fun (u : Int32) => [(y0, .inr (4, [.int 0, .int 0, .int u, .int 0, .int 100, .int 0, .int 500, .int 300, .ref m_kind, .ref m_floor, .ref m_volume, .ref m_size, .ref m_faces, .ref m_when, .ref m_ahead, .ref m_order, .ref m_tried, .ref m_chosen, .ref m_forms, .ref m_warmth, .ref m_degrees, .ref m_thousandths, .ref m_longest, .long 0, .long 0]))]) := by
  refine Met.ofW (cc := cX4_now) (maxL := 4) (ret := (some .int)) (by decide) rfl ?_
  intro p e s m args below meth c s₁ B hml hv
  obtain ⟨rfl, hsz, hP, hK, hD0, hN⟩ := hv
  have hx := B.exec
  have hb := B.bytes
  have hr := B.returns
  have hts := atoms_spec (ws := wsX4_now) B.pre
  have hown : s.vm.findClass RX4 = some m.cls := findClass_of_methodNamed B.named
  have hlocks := B.notSynchronized
  subst hsz
  have hD := hD0.self (sz := s.heap.size)
  generalize hAe : va_A [(y0, .inr (4, [.int 0, .int 0, .int 0, .int 0, .int 100, .int 0, .int 500, .int 300, .ref m_kind, .ref m_floor, .ref m_volume, .ref m_size, .ref m_faces, .ref m_when, .ref m_ahead, .ref m_order, .ref m_tried, .ref m_chosen, .ref m_forms, .ref m_warmth, .ref m_degrees, .ref m_thousandths, .ref m_longest, .long 0, .long 0]))] s.heap.size = A at hD ⊢
  have hA : ∀ q : Nat, s.heap.size ≤ q → A q := fun q h => by rw [← hAe]; exact Or.inr h
  have hS : va_S A s.heap s.heap [] := va_S.rf
  have hl := lv_entry ([.ref y0, .int d]) (n := 4) (Nat.le_of_ble_eq_true rfl)
  rw [lg_entry_eq]
  generalize (lg_sl ([.ref y0, .int d]) ++ List.replicate (4 - (lg_sl ([.ref y0, .int d])).length) Slot.unset).toArray = ls at hl ⊢
  have hl : lv_has ls 4 [(0, .ref y0), (1, .int d)] := hl
  have hP0 := hP
  refine lv_iload_n hx hb dX4_now_0 rfl (lv_at hl 1 rfl) ?_
  refine cc_i (wc := []) (wr := [(y0, .inr (4, [.int 0, .int 0, .int 0, .int 0, .int 100, .int 0, .int 500, .int 300, .ref m_kind, .ref m_floor, .ref m_volume, .ref m_size, .ref m_faces, .ref m_when, .ref m_ahead, .ref m_order, .ref m_tried, .ref m_chosen, .ref m_forms, .ref m_warmth, .ref m_degrees, .ref m_thousandths, .ref m_longest, .long 0, .long 0]))]) (va_runS (As := [.int d]) (rest := []) ⟨hx, hb, hml, hown, hts⟩ (c_X4_isDay l D cI s.heap.size d ) (va_cwS 1 hts gX4_now_X4_isDay rfl rfl rfl (by decide +kernel) ⟨Nat.le_of_ble_eq_true rfl, Nat.le_of_ble_eq_true rfl⟩) (preS (wc := []) hK hP hD hN [] rfl (by decide)) rfl rfl hl.1 rfl (lv_room (Nat.le_of_ble_eq_true rfl)) dX4_now_1 ⟨Nat.le_of_ble_eq_true rfl, Nat.le_of_ble_eq_true rfl⟩) hP hD hS hA [] [0] rfl rfl (by decide) (by decide) (fun r_1 u H locs w_2 hP hD hS => ?_)
  have hP : va_P D vwCl [(y0, .inr (4, [.int 0, .int 0, .int 0, .int 0, .int 100, .int 0, .int 500, .int 300, .ref m_kind, .ref m_floor, .ref m_volume, .ref m_size, .ref m_faces, .ref m_when, .ref m_ahead, .ref m_order, .ref m_tried, .ref m_chosen, .ref m_forms, .ref m_warmth, .ref m_degrees, .ref m_thousandths, .ref m_longest, .long 0, .long 0]))] H := hP
  have hD : va_D A [(y0, .inr (4, [.int 0, .int 0, .int 0, .int 0, .int 100, .int 0, .int 500, .int 300, .ref m_kind, .ref m_floor, .ref m_volume, .ref m_size, .ref m_faces, .ref m_when, .ref m_ahead, .ref m_order, .ref m_tried, .ref m_chosen, .ref m_forms, .ref m_warmth, .ref m_degrees, .ref m_thousandths, .ref m_longest, .long 0, .long 0]))] := hD
  have w_2 : r_1 = bDay d := w_2
  refine lv_if_ne (tgt := 9) hx hb dX4_now_4 (by decide) (fun c_4 => ?_) (fun c_4 => ?_)
  · refine lv_iload_n hx hb dX4_now_9 rfl (lv_at hl 1 rfl) ?_
    refine lv_aload_n hx hb dX4_now_10 rfl (lv_at hl 0 rfl) ?_
    refine va_get (D := D) (ci := 4) (v := .int 0) (C := RX4) (T := TX4) (N := 25) hx hb hts iw_X4_now_4 hown hK hP 0 rfl rfl 2 (by decide) (hts _ wd_X4_now_1) (fun _ h9 => h9) rfl dX4_now_11 ?_
    refine lv_icmp_ge (tgt := 20) hx hb dX4_now_14 (by decide) (fun c_5 => ?_) (fun c_5 => ?_)
    · refine lv_aload_n hx hb dX4_now_20 rfl (lv_at hl 0 rfl) ?_
      refine lv_iload_n hx hb dX4_now_21 rfl (lv_at hl 1 rfl) ?_
      refine va_put (D := D) (ci := 4) (v := .int d) (ty := .int) (C := RX4) (T := TX4) (N := 25) hx hb hts iw_X4_now_4 tyX4 tyX4_ok nmX4 hown hK hP hD hS 0 rfl rfl 2 (by decide) (hts _ wd_X4_now_1) (fun _ h9 => h9) rfl (by decide +kernel) rfl rfl (Nat.le_of_ble_eq_true rfl) dX4_now_22 (fun H locs hP hD hS => ?_)
      have hP : va_P D vwCl [(y0, .inr (4, [.int 0, .int 0, .int d, .int 0, .int 100, .int 0, .int 500, .int 300, .ref m_kind, .ref m_floor, .ref m_volume, .ref m_size, .ref m_faces, .ref m_when, .ref m_ahead, .ref m_order, .ref m_tried, .ref m_chosen, .ref m_forms, .ref m_warmth, .ref m_degrees, .ref m_thousandths, .ref m_longest, .long 0, .long 0]))] H := hP
      have hD : va_D A [(y0, .inr (4, [.int 0, .int 0, .int d, .int 0, .int 100, .int 0, .int 500, .int 300, .ref m_kind, .ref m_floor, .ref m_volume, .ref m_size, .ref m_faces, .ref m_when, .ref m_ahead, .ref m_order, .ref m_tried, .ref m_chosen, .ref m_forms, .ref m_warmth, .ref m_degrees, .ref m_thousandths, .ref m_longest, .long 0, .long 0]))] := hD
      refine lv_iconst (v := 0) hx hb dX4_now_25 (by decide) ?_
      refine lv_istore_n (lv' := [(2, .int 0), (0, .ref y0), (1, .int d)]) hx hb dX4_now_26 rfl hl (by decide) rfl (fun ls hl => ?_)
      refine lv_iconst (v := 0) hx hb dX4_now_27 (by decide) ?_
      refine lv_istore_n (lv' := [(3, .int 0), (2, .int 0), (0, .ref y0), (1, .int d)]) hx hb dX4_now_28 rfl hl (by decide) rfl (fun ls hl => ?_)
      refine lv_iload_n hx hb dX4_now_29 rfl (lv_at hl 0 rfl) ?_
      refine lv_aload_n hx hb dX4_now_30 rfl (lv_at hl 2 rfl) ?_
      refine va_get (D := D) (ci := 4) (v := .int 0) (C := RX4) (T := TX4) (N := 25) hx hb hts iw_X4_now_4 hown hK hP 0 rfl rfl 0 (by decide) (hts _ wd_X4_now_2) (fun _ h9 => h9) rfl dX4_now_31 ?_
      refine lv_icmp_ge (tgt := 66) hx hb dX4_now_34 (by decide) (fun _ => ?_) (fun h => absurd (by decide) h)
      refine lv_iload_n hx hb dX4_now_66 rfl (lv_at hl 1 rfl) ?_
      refine W.widen (k := 0) (n := 0) (Nat.le_of_ble_eq_true rfl) (Nat.le_of_ble_eq_true rfl) ?_
      exact fi_i d hx hb hr hlocks hK (hP.sub [0] rfl) (hD.sub [0] (by decide) rfl) hS (pf_X4_now_1 d r_1 w_2 c_4 c_5) dX4_now_67
    · refine lv_bipush (v := (-2)) hx hb dX4_now_17 (by decide) ?_
      refine W.widen (k := 0) (n := 0) (Nat.le_of_ble_eq_true rfl) (Nat.le_of_ble_eq_true rfl) ?_
      exact fi_i 0 hx hb hr hlocks hK (hP.sub [0] rfl) (hD.sub [0] (by decide) rfl) hS (pf_X4_now_2 d r_1 w_2 c_4 c_5) dX4_now_19
  · refine lv_iconst (v := (-1)) hx hb dX4_now_7 (by decide) ?_
    refine W.widen (k := 0) (n := 0) (Nat.le_of_ble_eq_true rfl) (Nat.le_of_ble_eq_true rfl) ?_
    exact fi_i 0 hx hb hr hlocks hK (hP.sub [0] rfl) (hD.sub [0] (by decide) rfl) hS (pf_X4_now_3 d r_1 w_2 c_4) dX4_now_8

theorem iw_X4_bound_4 : ∀ w ∈ wsX40, w ∈ wsX4_bound := fun w h => (List.mem_cons_of_mem _ (List.mem_append_right _ h))
theorem wd_X4_bound_1 : (.fieldLink RX4 67 "PourPlanModel" "pieces" "I" : Cond) ∈ wsX4_bound := List.mem_of_getElem? (i := 1) rfl
set_option maxHeartbeats 1000000 in
theorem pf_X4_bound_1   : (0 : Int32) = 0 := by
  grind
set_option maxHeartbeats 4000000 in
set_option maxRecDepth 100000 in
theorem c_X4_bound (l : Launch) (D : va_G) (cI : ClassId) (sz : Nat) (y0 : Nat) (m_kind : Nat) (m_floor : Nat) (m_volume : Nat) (m_size : Nat) (m_faces : Nat) (m_when : Nat) (m_ahead : Nat) (m_order : Nat) (m_tried : Nat) (m_chosen : Nat) (m_forms : Nat) (m_warmth : Nat) (m_degrees : Nat) (m_thousandths : Nat) (m_longest : Nat) : CtI l yX4_bound wsX4_bound 0 0 0 0 [.ref y0] D [(cI, .int)] [(y0, .inr (4, [.int 0, .int 0, .int 0, .int 0, .int 100, .int 0, .int 500, .int 300, .ref m_kind, .ref m_floor, .ref m_volume, .ref m_size, .ref m_faces, .ref m_when, .ref m_ahead, .ref m_order, .ref m_tried, .ref m_chosen, .ref m_forms, .ref m_warmth, .ref m_degrees, .ref m_thousandths, .ref m_longest, .long 0, .long 0]))] sz (fun (r : Int32) (u : Unit) => r = 0) (fun (u : Unit) => [(y0, .inr (4, [.int 0, .int 0, .int 0, .int 0, .int 100, .int 0, .int 500, .int 300, .ref m_kind, .ref m_floor, .ref m_volume, .ref m_size, .ref m_faces, .ref m_when, .ref m_ahead, .ref m_order, .ref m_tried, .ref m_chosen, .ref m_forms, .ref m_warmth, .ref m_degrees, .ref m_thousandths, .ref m_longest, .long 0, .long 0]))]) := by
  refine Met.ofW (cc := cX4_bound) (maxL := 5) (ret := (some .int)) (by decide) rfl ?_
  intro p e s m args below meth c s₁ B hml hv
  obtain ⟨rfl, hsz, hP, hK, hD0, hN⟩ := hv
  have hx := B.exec
  have hb := B.bytes
  have hr := B.returns
  have hts := atoms_spec (ws := wsX4_bound) B.pre
  have hown : s.vm.findClass RX4 = some m.cls := findClass_of_methodNamed B.named
  have hlocks := B.notSynchronized
  subst hsz
  have hD := hD0.self (sz := s.heap.size)
  generalize hAe : va_A [(y0, .inr (4, [.int 0, .int 0, .int 0, .int 0, .int 100, .int 0, .int 500, .int 300, .ref m_kind, .ref m_floor, .ref m_volume, .ref m_size, .ref m_faces, .ref m_when, .ref m_ahead, .ref m_order, .ref m_tried, .ref m_chosen, .ref m_forms, .ref m_warmth, .ref m_degrees, .ref m_thousandths, .ref m_longest, .long 0, .long 0]))] s.heap.size = A at hD ⊢
  have hA : ∀ q : Nat, s.heap.size ≤ q → A q := fun q h => by rw [← hAe]; exact Or.inr h
  have hS : va_S A s.heap s.heap [] := va_S.rf
  have hl := lv_entry ([.ref y0]) (n := 5) (Nat.le_of_ble_eq_true rfl)
  rw [lg_entry_eq]
  generalize (lg_sl ([.ref y0]) ++ List.replicate (5 - (lg_sl ([.ref y0])).length) Slot.unset).toArray = ls at hl ⊢
  have hl : lv_has ls 5 [(0, .ref y0)] := hl
  have hP0 := hP
  refine lv_aload_n hx hb dX4_bound_0 rfl (lv_at hl 0 rfl) ?_
  refine va_get (D := D) (ci := 4) (v := .int 0) (C := RX4) (T := TX4) (N := 25) hx hb hts iw_X4_bound_4 hown hK hP 0 rfl rfl 0 (by decide) (hts _ wd_X4_bound_1) (fun _ h9 => h9) rfl dX4_bound_1 ?_
  refine lv_if_ne (tgt := 9) hx hb dX4_bound_4 (by decide) (fun h => absurd (by decide) h) (fun _ => ?_)
  refine lv_iconst (v := 0) hx hb dX4_bound_7 (by decide) ?_
  refine W.widen (k := 0) (n := 0) (Nat.le_of_ble_eq_true rfl) (Nat.le_of_ble_eq_true rfl) ?_
  exact fi_i () hx hb hr hlocks hK (hP.sub [0] rfl) (hD.sub [0] (by decide) rfl) hS (pf_X4_bound_1) dX4_bound_8

set_option maxHeartbeats 1000000 in
theorem pf_X4_about_1 (r_1 : Int32) (w_2 : r_1 = 0) (c_4 : ¬ r_1 = 0) : False := by
  grind
set_option maxHeartbeats 1000000 in
theorem pf_X4_about_2 (r_1 : Int32) (w_2 : r_1 = 0) (c_4 : r_1 = 0) : (-1 : Int32) = -1 := by
  grind
set_option maxHeartbeats 4000000 in
set_option maxRecDepth 100000 in
theorem c_X4_about (l : Launch) (D : va_G) (cI : ClassId) (sz : Nat) (y0 : Nat) (m_kind : Nat) (m_floor : Nat) (m_volume : Nat) (m_size : Nat) (m_faces : Nat) (m_when : Nat) (m_ahead : Nat) (m_order : Nat) (m_tried : Nat) (m_chosen : Nat) (m_forms : Nat) (m_warmth : Nat) (m_degrees : Nat) (m_thousandths : Nat) (m_longest : Nat) (a : Int32) (w : Int32) : CtI l yX4_about wsX4_about 1 21 0 0 [.ref y0, .int a, .int w] D [(cI, .int)] [(y0, .inr (4, [.int 0, .int 0, .int 0, .int 0, .int 100, .int 0, .int 500, .int 300, .ref m_kind, .ref m_floor, .ref m_volume, .ref m_size, .ref m_faces, .ref m_when, .ref m_ahead, .ref m_order, .ref m_tried, .ref m_chosen, .ref m_forms, .ref m_warmth, .ref m_degrees, .ref m_thousandths, .ref m_longest, .long 0, .long 0]))] sz (fun (r : Int32) (u : Unit) => r = -1) (fun (u : Unit) => [(y0, .inr (4, [.int 0, .int 0, .int 0, .int 0, .int 100, .int 0, .int 500, .int 300, .ref m_kind, .ref m_floor, .ref m_volume, .ref m_size, .ref m_faces, .ref m_when, .ref m_ahead, .ref m_order, .ref m_tried, .ref m_chosen, .ref m_forms, .ref m_warmth, .ref m_degrees, .ref m_thousandths, .ref m_longest, .long 0, .long 0]))]) := by
  refine Met.ofW (cc := cX4_about) (maxL := 4) (ret := (some .int)) (by decide) rfl ?_
  intro p e s m args below meth c s₁ B hml hv
  obtain ⟨rfl, hsz, hP, hK, hD0, hN⟩ := hv
  have hx := B.exec
  have hb := B.bytes
  have hr := B.returns
  have hts := atoms_spec (ws := wsX4_about) B.pre
  have hown : s.vm.findClass RX4 = some m.cls := findClass_of_methodNamed B.named
  have hlocks := B.notSynchronized
  subst hsz
  have hD := hD0.self (sz := s.heap.size)
  generalize hAe : va_A [(y0, .inr (4, [.int 0, .int 0, .int 0, .int 0, .int 100, .int 0, .int 500, .int 300, .ref m_kind, .ref m_floor, .ref m_volume, .ref m_size, .ref m_faces, .ref m_when, .ref m_ahead, .ref m_order, .ref m_tried, .ref m_chosen, .ref m_forms, .ref m_warmth, .ref m_degrees, .ref m_thousandths, .ref m_longest, .long 0, .long 0]))] s.heap.size = A at hD ⊢
  have hA : ∀ q : Nat, s.heap.size ≤ q → A q := fun q h => by rw [← hAe]; exact Or.inr h
  have hS : va_S A s.heap s.heap [] := va_S.rf
  have hl := lv_entry ([.ref y0, .int a, .int w]) (n := 4) (Nat.le_of_ble_eq_true rfl)
  rw [lg_entry_eq]
  generalize (lg_sl ([.ref y0, .int a, .int w]) ++ List.replicate (4 - (lg_sl ([.ref y0, .int a, .int w])).length) Slot.unset).toArray = ls at hl ⊢
  have hl : lv_has ls 4 [(0, .ref y0), (1, .int a), (2, .int w)] := hl
  have hP0 := hP
  refine lv_aload_n hx hb dX4_about_0 rfl (lv_at hl 0 rfl) ?_
  refine lv_iload_n hx hb dX4_about_1 rfl (lv_at hl 1 rfl) ?_
  refine cc_i (wc := [(y0, .inr (4, [.int 0, .int 0, .int 0, .int 0, .int 100, .int 0, .int 500, .int 300, .ref m_kind, .ref m_floor, .ref m_volume, .ref m_size, .ref m_faces, .ref m_when, .ref m_ahead, .ref m_order, .ref m_tried, .ref m_chosen, .ref m_forms, .ref m_warmth, .ref m_degrees, .ref m_thousandths, .ref m_longest, .long 0, .long 0]))]) (wr := []) (va_runV (As := [.int a]) (rest := []) ⟨hx, hb, hml, hown, hts⟩ (c_X4_isPiece_0 l D cI s.heap.size y0 m_kind m_floor m_volume m_size m_faces m_when m_ahead m_order m_tried m_chosen m_forms m_warmth m_degrees m_thousandths m_longest a ) (cwV 1 hts gX4_about_X4_isPiece rfl rfl rfl (by decide +kernel) ⟨Nat.le_of_ble_eq_true rfl, Nat.le_of_ble_eq_true rfl⟩) (preV (wc := [(y0, .inr (4, [.int 0, .int 0, .int 0, .int 0, .int 100, .int 0, .int 500, .int 300, .ref m_kind, .ref m_floor, .ref m_volume, .ref m_size, .ref m_faces, .ref m_when, .ref m_ahead, .ref m_order, .ref m_tried, .ref m_chosen, .ref m_forms, .ref m_warmth, .ref m_degrees, .ref m_thousandths, .ref m_longest, .long 0, .long 0]))]) (ci := 4) (q0 := 0) hK hP hD hN [0] rfl (by decide) rfl rfl) rfl rfl hl.1 rfl (lv_room (Nat.le_of_ble_eq_true rfl)) dX4_about_2 ⟨Nat.le_of_ble_eq_true rfl, Nat.le_of_ble_eq_true rfl⟩) hP hD hS hA [0] [] rfl rfl (by decide) (by decide) (fun r_1 u H locs w_2 hP hD hS => ?_)
  have hP : va_P D vwCl [(y0, .inr (4, [.int 0, .int 0, .int 0, .int 0, .int 100, .int 0, .int 500, .int 300, .ref m_kind, .ref m_floor, .ref m_volume, .ref m_size, .ref m_faces, .ref m_when, .ref m_ahead, .ref m_order, .ref m_tried, .ref m_chosen, .ref m_forms, .ref m_warmth, .ref m_degrees, .ref m_thousandths, .ref m_longest, .long 0, .long 0]))] H := hP
  have hD : va_D A [(y0, .inr (4, [.int 0, .int 0, .int 0, .int 0, .int 100, .int 0, .int 500, .int 300, .ref m_kind, .ref m_floor, .ref m_volume, .ref m_size, .ref m_faces, .ref m_when, .ref m_ahead, .ref m_order, .ref m_tried, .ref m_chosen, .ref m_forms, .ref m_warmth, .ref m_degrees, .ref m_thousandths, .ref m_longest, .long 0, .long 0]))] := hD
  have w_2 : r_1 = 0 := w_2
  refine lv_if_ne (tgt := 10) hx hb dX4_about_5 (by decide) (fun c_4 => absurd (pf_X4_about_1 r_1 w_2 c_4) id) (fun c_4 => ?_)
  refine lv_iconst (v := (-1)) hx hb dX4_about_8 (by decide) ?_
  refine W.widen (k := 0) (n := 0) (Nat.le_of_ble_eq_true rfl) (Nat.le_of_ble_eq_true rfl) ?_
  exact fi_i () hx hb hr hlocks hK (hP.sub [0] rfl) (hD.sub [0] (by decide) rfl) hS (pf_X4_about_2 r_1 w_2 c_4) dX4_about_9

set_option maxHeartbeats 1000000 in
theorem pf_X4_hard_1 (r_1 : Int32) (w_2 : r_1 = 0) (c_4 : ¬ r_1 = 0) : False := by
  grind
set_option maxHeartbeats 1000000 in
theorem pf_X4_hard_2 (r_1 : Int32) (w_2 : r_1 = 0) (c_4 : r_1 = 0) : (-1 : Int32) = -1 := by
  grind
set_option maxHeartbeats 4000000 in
set_option maxRecDepth 100000 in
theorem c_X4_hard (l : Launch) (D : va_G) (cI : ClassId) (sz : Nat) (y0 : Nat) (m_kind : Nat) (m_floor : Nat) (m_volume : Nat) (m_size : Nat) (m_faces : Nat) (m_when : Nat) (m_ahead : Nat) (m_order : Nat) (m_tried : Nat) (m_chosen : Nat) (m_forms : Nat) (m_warmth : Nat) (m_degrees : Nat) (m_thousandths : Nat) (m_longest : Nat) (a : Int32) (d : Int32) : CtI l yX4_hard wsX4_hard 1 21 0 0 [.ref y0, .int a, .int d] D [(cI, .int)] [(y0, .inr (4, [.int 0, .int 0, .int 0, .int 0, .int 100, .int 0, .int 500, .int 300, .ref m_kind, .ref m_floor, .ref m_volume, .ref m_size, .ref m_faces, .ref m_when, .ref m_ahead, .ref m_order, .ref m_tried, .ref m_chosen, .ref m_forms, .ref m_warmth, .ref m_degrees, .ref m_thousandths, .ref m_longest, .long 0, .long 0]))] sz (fun (r : Int32) (u : Unit) => r = -1) (fun (u : Unit) => [(y0, .inr (4, [.int 0, .int 0, .int 0, .int 0, .int 100, .int 0, .int 500, .int 300, .ref m_kind, .ref m_floor, .ref m_volume, .ref m_size, .ref m_faces, .ref m_when, .ref m_ahead, .ref m_order, .ref m_tried, .ref m_chosen, .ref m_forms, .ref m_warmth, .ref m_degrees, .ref m_thousandths, .ref m_longest, .long 0, .long 0]))]) := by
  refine Met.ofW (cc := cX4_hard) (maxL := 3) (ret := (some .int)) (by decide) rfl ?_
  intro p e s m args below meth c s₁ B hml hv
  obtain ⟨rfl, hsz, hP, hK, hD0, hN⟩ := hv
  have hx := B.exec
  have hb := B.bytes
  have hr := B.returns
  have hts := atoms_spec (ws := wsX4_hard) B.pre
  have hown : s.vm.findClass RX4 = some m.cls := findClass_of_methodNamed B.named
  have hlocks := B.notSynchronized
  subst hsz
  have hD := hD0.self (sz := s.heap.size)
  generalize hAe : va_A [(y0, .inr (4, [.int 0, .int 0, .int 0, .int 0, .int 100, .int 0, .int 500, .int 300, .ref m_kind, .ref m_floor, .ref m_volume, .ref m_size, .ref m_faces, .ref m_when, .ref m_ahead, .ref m_order, .ref m_tried, .ref m_chosen, .ref m_forms, .ref m_warmth, .ref m_degrees, .ref m_thousandths, .ref m_longest, .long 0, .long 0]))] s.heap.size = A at hD ⊢
  have hA : ∀ q : Nat, s.heap.size ≤ q → A q := fun q h => by rw [← hAe]; exact Or.inr h
  have hS : va_S A s.heap s.heap [] := va_S.rf
  have hl := lv_entry ([.ref y0, .int a, .int d]) (n := 3) (Nat.le_of_ble_eq_true rfl)
  rw [lg_entry_eq]
  generalize (lg_sl ([.ref y0, .int a, .int d]) ++ List.replicate (3 - (lg_sl ([.ref y0, .int a, .int d])).length) Slot.unset).toArray = ls at hl ⊢
  have hl : lv_has ls 3 [(0, .ref y0), (1, .int a), (2, .int d)] := hl
  have hP0 := hP
  refine lv_aload_n hx hb dX4_hard_0 rfl (lv_at hl 0 rfl) ?_
  refine lv_iload_n hx hb dX4_hard_1 rfl (lv_at hl 1 rfl) ?_
  refine cc_i (wc := [(y0, .inr (4, [.int 0, .int 0, .int 0, .int 0, .int 100, .int 0, .int 500, .int 300, .ref m_kind, .ref m_floor, .ref m_volume, .ref m_size, .ref m_faces, .ref m_when, .ref m_ahead, .ref m_order, .ref m_tried, .ref m_chosen, .ref m_forms, .ref m_warmth, .ref m_degrees, .ref m_thousandths, .ref m_longest, .long 0, .long 0]))]) (wr := []) (va_runV (As := [.int a]) (rest := []) ⟨hx, hb, hml, hown, hts⟩ (c_X4_isPiece_0 l D cI s.heap.size y0 m_kind m_floor m_volume m_size m_faces m_when m_ahead m_order m_tried m_chosen m_forms m_warmth m_degrees m_thousandths m_longest a ) (cwV 1 hts gX4_hard_X4_isPiece rfl rfl rfl (by decide +kernel) ⟨Nat.le_of_ble_eq_true rfl, Nat.le_of_ble_eq_true rfl⟩) (preV (wc := [(y0, .inr (4, [.int 0, .int 0, .int 0, .int 0, .int 100, .int 0, .int 500, .int 300, .ref m_kind, .ref m_floor, .ref m_volume, .ref m_size, .ref m_faces, .ref m_when, .ref m_ahead, .ref m_order, .ref m_tried, .ref m_chosen, .ref m_forms, .ref m_warmth, .ref m_degrees, .ref m_thousandths, .ref m_longest, .long 0, .long 0]))]) (ci := 4) (q0 := 0) hK hP hD hN [0] rfl (by decide) rfl rfl) rfl rfl hl.1 rfl (lv_room (Nat.le_of_ble_eq_true rfl)) dX4_hard_2 ⟨Nat.le_of_ble_eq_true rfl, Nat.le_of_ble_eq_true rfl⟩) hP hD hS hA [0] [] rfl rfl (by decide) (by decide) (fun r_1 u H locs w_2 hP hD hS => ?_)
  have hP : va_P D vwCl [(y0, .inr (4, [.int 0, .int 0, .int 0, .int 0, .int 100, .int 0, .int 500, .int 300, .ref m_kind, .ref m_floor, .ref m_volume, .ref m_size, .ref m_faces, .ref m_when, .ref m_ahead, .ref m_order, .ref m_tried, .ref m_chosen, .ref m_forms, .ref m_warmth, .ref m_degrees, .ref m_thousandths, .ref m_longest, .long 0, .long 0]))] H := hP
  have hD : va_D A [(y0, .inr (4, [.int 0, .int 0, .int 0, .int 0, .int 100, .int 0, .int 500, .int 300, .ref m_kind, .ref m_floor, .ref m_volume, .ref m_size, .ref m_faces, .ref m_when, .ref m_ahead, .ref m_order, .ref m_tried, .ref m_chosen, .ref m_forms, .ref m_warmth, .ref m_degrees, .ref m_thousandths, .ref m_longest, .long 0, .long 0]))] := hD
  have w_2 : r_1 = 0 := w_2
  refine lv_if_eq (tgt := 38) hx hb dX4_hard_5 (by decide) (fun c_4 => ?_) (fun c_4 => absurd (pf_X4_hard_1 r_1 w_2 c_4) id)
  refine lv_iconst (v := (-1)) hx hb dX4_hard_38 (by decide) ?_
  refine W.widen (k := 0) (n := 0) (Nat.le_of_ble_eq_true rfl) (Nat.le_of_ble_eq_true rfl) ?_
  exact fi_i () hx hb hr hlocks hK (hP.sub [0] rfl) (hD.sub [0] (by decide) rfl) hS (pf_X4_hard_2 r_1 w_2 c_4) dX4_hard_39

set_option maxHeartbeats 1000000 in
theorem pf_X4_why_1 (r_1 : Int32) (w_2 : r_1 = 0) (c_4 : ¬ r_1 = 0) : False := by
  grind
set_option maxHeartbeats 1000000 in
theorem pf_X4_why_2 (r_1 : Int32) (w_2 : r_1 = 0) (c_4 : r_1 = 0) : (-1 : Int32) = -1 := by
  grind
set_option maxHeartbeats 4000000 in
set_option maxRecDepth 100000 in
theorem c_X4_why (l : Launch) (D : va_G) (cI : ClassId) (sz : Nat) (y0 : Nat) (m_kind : Nat) (m_floor : Nat) (m_volume : Nat) (m_size : Nat) (m_faces : Nat) (m_when : Nat) (m_ahead : Nat) (m_order : Nat) (m_tried : Nat) (m_chosen : Nat) (m_forms : Nat) (m_warmth : Nat) (m_degrees : Nat) (m_thousandths : Nat) (m_longest : Nat) (a : Int32) (d : Int32) : CtI l yX4_why wsX4_why 1 21 0 0 [.ref y0, .int a, .int d] D [(cI, .int)] [(y0, .inr (4, [.int 0, .int 0, .int 0, .int 0, .int 100, .int 0, .int 500, .int 300, .ref m_kind, .ref m_floor, .ref m_volume, .ref m_size, .ref m_faces, .ref m_when, .ref m_ahead, .ref m_order, .ref m_tried, .ref m_chosen, .ref m_forms, .ref m_warmth, .ref m_degrees, .ref m_thousandths, .ref m_longest, .long 0, .long 0]))] sz (fun (r : Int32) (u : Unit) => r = -1) (fun (u : Unit) => [(y0, .inr (4, [.int 0, .int 0, .int 0, .int 0, .int 100, .int 0, .int 500, .int 300, .ref m_kind, .ref m_floor, .ref m_volume, .ref m_size, .ref m_faces, .ref m_when, .ref m_ahead, .ref m_order, .ref m_tried, .ref m_chosen, .ref m_forms, .ref m_warmth, .ref m_degrees, .ref m_thousandths, .ref m_longest, .long 0, .long 0]))]) := by
  refine Met.ofW (cc := cX4_why) (maxL := 3) (ret := (some .int)) (by decide) rfl ?_
  intro p e s m args below meth c s₁ B hml hv
  obtain ⟨rfl, hsz, hP, hK, hD0, hN⟩ := hv
  have hx := B.exec
  have hb := B.bytes
  have hr := B.returns
  have hts := atoms_spec (ws := wsX4_why) B.pre
  have hown : s.vm.findClass RX4 = some m.cls := findClass_of_methodNamed B.named
  have hlocks := B.notSynchronized
  subst hsz
  have hD := hD0.self (sz := s.heap.size)
  generalize hAe : va_A [(y0, .inr (4, [.int 0, .int 0, .int 0, .int 0, .int 100, .int 0, .int 500, .int 300, .ref m_kind, .ref m_floor, .ref m_volume, .ref m_size, .ref m_faces, .ref m_when, .ref m_ahead, .ref m_order, .ref m_tried, .ref m_chosen, .ref m_forms, .ref m_warmth, .ref m_degrees, .ref m_thousandths, .ref m_longest, .long 0, .long 0]))] s.heap.size = A at hD ⊢
  have hA : ∀ q : Nat, s.heap.size ≤ q → A q := fun q h => by rw [← hAe]; exact Or.inr h
  have hS : va_S A s.heap s.heap [] := va_S.rf
  have hl := lv_entry ([.ref y0, .int a, .int d]) (n := 3) (Nat.le_of_ble_eq_true rfl)
  rw [lg_entry_eq]
  generalize (lg_sl ([.ref y0, .int a, .int d]) ++ List.replicate (3 - (lg_sl ([.ref y0, .int a, .int d])).length) Slot.unset).toArray = ls at hl ⊢
  have hl : lv_has ls 3 [(0, .ref y0), (1, .int a), (2, .int d)] := hl
  have hP0 := hP
  refine lv_aload_n hx hb dX4_why_0 rfl (lv_at hl 0 rfl) ?_
  refine lv_iload_n hx hb dX4_why_1 rfl (lv_at hl 1 rfl) ?_
  refine cc_i (wc := [(y0, .inr (4, [.int 0, .int 0, .int 0, .int 0, .int 100, .int 0, .int 500, .int 300, .ref m_kind, .ref m_floor, .ref m_volume, .ref m_size, .ref m_faces, .ref m_when, .ref m_ahead, .ref m_order, .ref m_tried, .ref m_chosen, .ref m_forms, .ref m_warmth, .ref m_degrees, .ref m_thousandths, .ref m_longest, .long 0, .long 0]))]) (wr := []) (va_runV (As := [.int a]) (rest := []) ⟨hx, hb, hml, hown, hts⟩ (c_X4_isPiece_0 l D cI s.heap.size y0 m_kind m_floor m_volume m_size m_faces m_when m_ahead m_order m_tried m_chosen m_forms m_warmth m_degrees m_thousandths m_longest a ) (cwV 1 hts gX4_why_X4_isPiece rfl rfl rfl (by decide +kernel) ⟨Nat.le_of_ble_eq_true rfl, Nat.le_of_ble_eq_true rfl⟩) (preV (wc := [(y0, .inr (4, [.int 0, .int 0, .int 0, .int 0, .int 100, .int 0, .int 500, .int 300, .ref m_kind, .ref m_floor, .ref m_volume, .ref m_size, .ref m_faces, .ref m_when, .ref m_ahead, .ref m_order, .ref m_tried, .ref m_chosen, .ref m_forms, .ref m_warmth, .ref m_degrees, .ref m_thousandths, .ref m_longest, .long 0, .long 0]))]) (ci := 4) (q0 := 0) hK hP hD hN [0] rfl (by decide) rfl rfl) rfl rfl hl.1 rfl (lv_room (Nat.le_of_ble_eq_true rfl)) dX4_why_2 ⟨Nat.le_of_ble_eq_true rfl, Nat.le_of_ble_eq_true rfl⟩) hP hD hS hA [0] [] rfl rfl (by decide) (by decide) (fun r_1 u H locs w_2 hP hD hS => ?_)
  have hP : va_P D vwCl [(y0, .inr (4, [.int 0, .int 0, .int 0, .int 0, .int 100, .int 0, .int 500, .int 300, .ref m_kind, .ref m_floor, .ref m_volume, .ref m_size, .ref m_faces, .ref m_when, .ref m_ahead, .ref m_order, .ref m_tried, .ref m_chosen, .ref m_forms, .ref m_warmth, .ref m_degrees, .ref m_thousandths, .ref m_longest, .long 0, .long 0]))] H := hP
  have hD : va_D A [(y0, .inr (4, [.int 0, .int 0, .int 0, .int 0, .int 100, .int 0, .int 500, .int 300, .ref m_kind, .ref m_floor, .ref m_volume, .ref m_size, .ref m_faces, .ref m_when, .ref m_ahead, .ref m_order, .ref m_tried, .ref m_chosen, .ref m_forms, .ref m_warmth, .ref m_degrees, .ref m_thousandths, .ref m_longest, .long 0, .long 0]))] := hD
  have w_2 : r_1 = 0 := w_2
  refine lv_if_eq (tgt := 24) hx hb dX4_why_5 (by decide) (fun c_4 => ?_) (fun c_4 => absurd (pf_X4_why_1 r_1 w_2 c_4) id)
  refine lv_iconst (v := (-1)) hx hb dX4_why_24 (by decide) ?_
  refine W.widen (k := 0) (n := 0) (Nat.le_of_ble_eq_true rfl) (Nat.le_of_ble_eq_true rfl) ?_
  exact fi_i () hx hb hr hlocks hK (hP.sub [0] rfl) (hD.sub [0] (by decide) rfl) hS (pf_X4_why_2 r_1 w_2 c_4) dX4_why_25

theorem wd_X4_borne_2 : (.constantLong RX4 146 (-9223372036854775808) : Cond) ∈ wsX4_borne := List.mem_of_getElem? (i := 2) rfl
set_option maxHeartbeats 1000000 in
theorem pf_X4_borne_1 (r_1 : Int32) (w_2 : r_1 = 0) (c_4 : ¬ r_1 = 0) : False := by
  grind
set_option maxHeartbeats 1000000 in
theorem pf_X4_borne_2 (r_1 : Int32) (w_2 : r_1 = 0) (c_4 : r_1 = 0) : (-9223372036854775808 : Int64) = -9223372036854775808 := by
  grind
set_option maxHeartbeats 4000000 in
set_option maxRecDepth 100000 in
theorem c_X4_borne (l : Launch) (D : va_G) (cI : ClassId) (sz : Nat) (y0 : Nat) (m_kind : Nat) (m_floor : Nat) (m_volume : Nat) (m_size : Nat) (m_faces : Nat) (m_when : Nat) (m_ahead : Nat) (m_order : Nat) (m_tried : Nat) (m_chosen : Nat) (m_forms : Nat) (m_warmth : Nat) (m_degrees : Nat) (m_thousandths : Nat) (m_longest : Nat) (a : Int32) (d : Int32) (pa : Int32) : CtL l yX4_borne wsX4_borne 1 21 0 0 [.ref y0, .int a, .int d, .int pa] D [(cI, .int)] [(y0, .inr (4, [.int 0, .int 0, .int 0, .int 0, .int 100, .int 0, .int 500, .int 300, .ref m_kind, .ref m_floor, .ref m_volume, .ref m_size, .ref m_faces, .ref m_when, .ref m_ahead, .ref m_order, .ref m_tried, .ref m_chosen, .ref m_forms, .ref m_warmth, .ref m_degrees, .ref m_thousandths, .ref m_longest, .long 0, .long 0]))] sz (fun (r : Int64) (u : Unit) => r = -9223372036854775808) (fun (u : Unit) => [(y0, .inr (4, [.int 0, .int 0, .int 0, .int 0, .int 100, .int 0, .int 500, .int 300, .ref m_kind, .ref m_floor, .ref m_volume, .ref m_size, .ref m_faces, .ref m_when, .ref m_ahead, .ref m_order, .ref m_tried, .ref m_chosen, .ref m_forms, .ref m_warmth, .ref m_degrees, .ref m_thousandths, .ref m_longest, .long 0, .long 0]))]) := by
  refine Met.ofW (cc := cX4_borne) (maxL := 10) (ret := (some .long)) (by decide) rfl ?_
  intro p e s m args below meth c s₁ B hml hv
  obtain ⟨rfl, hsz, hP, hK, hD0, hN⟩ := hv
  have hx := B.exec
  have hb := B.bytes
  have hr := B.returns
  have hts := atoms_spec (ws := wsX4_borne) B.pre
  have hown : s.vm.findClass RX4 = some m.cls := findClass_of_methodNamed B.named
  have hlocks := B.notSynchronized
  subst hsz
  have hD := hD0.self (sz := s.heap.size)
  generalize hAe : va_A [(y0, .inr (4, [.int 0, .int 0, .int 0, .int 0, .int 100, .int 0, .int 500, .int 300, .ref m_kind, .ref m_floor, .ref m_volume, .ref m_size, .ref m_faces, .ref m_when, .ref m_ahead, .ref m_order, .ref m_tried, .ref m_chosen, .ref m_forms, .ref m_warmth, .ref m_degrees, .ref m_thousandths, .ref m_longest, .long 0, .long 0]))] s.heap.size = A at hD ⊢
  have hA : ∀ q : Nat, s.heap.size ≤ q → A q := fun q h => by rw [← hAe]; exact Or.inr h
  have hS : va_S A s.heap s.heap [] := va_S.rf
  have hl := lv_entry ([.ref y0, .int a, .int d, .int pa]) (n := 10) (Nat.le_of_ble_eq_true rfl)
  rw [lg_entry_eq]
  generalize (lg_sl ([.ref y0, .int a, .int d, .int pa]) ++ List.replicate (10 - (lg_sl ([.ref y0, .int a, .int d, .int pa])).length) Slot.unset).toArray = ls at hl ⊢
  have hl : lv_has ls 10 [(0, .ref y0), (1, .int a), (2, .int d), (3, .int pa)] := hl
  have hP0 := hP
  refine lv_aload_n hx hb dX4_borne_0 rfl (lv_at hl 0 rfl) ?_
  refine lv_iload_n hx hb dX4_borne_1 rfl (lv_at hl 1 rfl) ?_
  refine cc_i (wc := [(y0, .inr (4, [.int 0, .int 0, .int 0, .int 0, .int 100, .int 0, .int 500, .int 300, .ref m_kind, .ref m_floor, .ref m_volume, .ref m_size, .ref m_faces, .ref m_when, .ref m_ahead, .ref m_order, .ref m_tried, .ref m_chosen, .ref m_forms, .ref m_warmth, .ref m_degrees, .ref m_thousandths, .ref m_longest, .long 0, .long 0]))]) (wr := []) (va_runV (As := [.int a]) (rest := []) ⟨hx, hb, hml, hown, hts⟩ (c_X4_isPiece_0 l D cI s.heap.size y0 m_kind m_floor m_volume m_size m_faces m_when m_ahead m_order m_tried m_chosen m_forms m_warmth m_degrees m_thousandths m_longest a ) (cwV 1 hts gX4_borne_X4_isPiece rfl rfl rfl (by decide +kernel) ⟨Nat.le_of_ble_eq_true rfl, Nat.le_of_ble_eq_true rfl⟩) (preV (wc := [(y0, .inr (4, [.int 0, .int 0, .int 0, .int 0, .int 100, .int 0, .int 500, .int 300, .ref m_kind, .ref m_floor, .ref m_volume, .ref m_size, .ref m_faces, .ref m_when, .ref m_ahead, .ref m_order, .ref m_tried, .ref m_chosen, .ref m_forms, .ref m_warmth, .ref m_degrees, .ref m_thousandths, .ref m_longest, .long 0, .long 0]))]) (ci := 4) (q0 := 0) hK hP hD hN [0] rfl (by decide) rfl rfl) rfl rfl hl.1 rfl (lv_room (Nat.le_of_ble_eq_true rfl)) dX4_borne_2 ⟨Nat.le_of_ble_eq_true rfl, Nat.le_of_ble_eq_true rfl⟩) hP hD hS hA [0] [] rfl rfl (by decide) (by decide) (fun r_1 u H locs w_2 hP hD hS => ?_)
  have hP : va_P D vwCl [(y0, .inr (4, [.int 0, .int 0, .int 0, .int 0, .int 100, .int 0, .int 500, .int 300, .ref m_kind, .ref m_floor, .ref m_volume, .ref m_size, .ref m_faces, .ref m_when, .ref m_ahead, .ref m_order, .ref m_tried, .ref m_chosen, .ref m_forms, .ref m_warmth, .ref m_degrees, .ref m_thousandths, .ref m_longest, .long 0, .long 0]))] H := hP
  have hD : va_D A [(y0, .inr (4, [.int 0, .int 0, .int 0, .int 0, .int 100, .int 0, .int 500, .int 300, .ref m_kind, .ref m_floor, .ref m_volume, .ref m_size, .ref m_faces, .ref m_when, .ref m_ahead, .ref m_order, .ref m_tried, .ref m_chosen, .ref m_forms, .ref m_warmth, .ref m_degrees, .ref m_thousandths, .ref m_longest, .long 0, .long 0]))] := hD
  have w_2 : r_1 = 0 := w_2
  refine lv_if_eq (tgt := 42) hx hb dX4_borne_5 (by decide) (fun c_4 => ?_) (fun c_4 => absurd (pf_X4_borne_1 r_1 w_2 c_4) id)
  refine lv_ldc2 hx hb hown (hts _ wd_X4_borne_2) dX4_borne_42 ?_
  refine W.widen (k := 0) (n := 0) (Nat.le_of_ble_eq_true rfl) (Nat.le_of_ble_eq_true rfl) ?_
  exact fi_l () hx hb hr hlocks hK (hP.sub [0] rfl) (hD.sub [0] (by decide) rfl) hS (pf_X4_borne_2 r_1 w_2 c_4) dX4_borne_45

theorem iw_X4_freeOf_0_4 : ∀ w ∈ wsX40, w ∈ wsX4_freeOf := fun w h => (List.mem_cons_of_mem _ (List.mem_append_right _ h))
theorem wd_X4_freeOf_0_1 : (.fieldLink RX4 52 "PourPlanModel" "forms" "[I" : Cond) ∈ wsX4_freeOf := List.mem_of_getElem? (i := 1) rfl
theorem wd_X4_freeOf_0_2 : (.fieldLink RX4 67 "PourPlanModel" "pieces" "I" : Cond) ∈ wsX4_freeOf := List.mem_of_getElem? (i := 2) rfl
set_option maxHeartbeats 1000000 in
theorem pf_X4_freeOf_0_1 (u_forms : Nat → Int32) (s1 : Int32) (hf : ∀ j, j < 3 → u_forms j = 10) (hs : vp_in s1 3) : vp_in s1 3 := by
  exact hs
set_option maxHeartbeats 1000000 in
theorem pf_X4_freeOf_0_2 (u_forms : Nat → Int32) (s1 : Int32) (v_1 : Int32) (hf : ∀ j, j < 3 → u_forms j = 10) (hs : vp_in s1 3) (ev_1 : v_1 = u_forms s1.toNatClampNeg) : v_1 = 10 := by
  first
  | (grind)
  | (have h4 := hf _ (cl_lt hs)
     grind)
set_option maxHeartbeats 4000000 in
set_option maxRecDepth 100000 in
theorem c_X4_freeOf_0 (l : Launch) (D : va_G) (cI : ClassId) (sz : Nat) (y0 : Nat) (m_forms : Nat) (m_kind : Nat) (m_floor : Nat) (m_volume : Nat) (m_size : Nat) (m_faces : Nat) (m_when : Nat) (m_ahead : Nat) (m_order : Nat) (m_tried : Nat) (m_chosen : Nat) (m_warmth : Nat) (m_degrees : Nat) (m_thousandths : Nat) (m_longest : Nat) (u_forms : Nat → Int32) (s1 : Int32) (d : Int32) (bu : Int32) (hf : ∀ j, j < 3 → u_forms j = 10) (hs : vp_in s1 3) : CtI l yX4_freeOf wsX4_freeOf 0 0 0 0 [.ref y0, .int s1, .int d, .int bu] D [(cI, .int)] [(y0, .inr (4, [.int 0, .int 0, .int 0, .int 0, .int 100, .int 0, .int 500, .int 300, .ref m_kind, .ref m_floor, .ref m_volume, .ref m_size, .ref m_faces, .ref m_when, .ref m_ahead, .ref m_order, .ref m_tried, .ref m_chosen, .ref m_forms, .ref m_warmth, .ref m_degrees, .ref m_thousandths, .ref m_longest, .long 0, .long 0])), (m_forms, .inl (cI, 3, .inl u_forms))] sz (fun (r : Int32) (u : Unit) => r = 10) (fun (u : Unit) => [(y0, .inr (4, [.int 0, .int 0, .int 0, .int 0, .int 100, .int 0, .int 500, .int 300, .ref m_kind, .ref m_floor, .ref m_volume, .ref m_size, .ref m_faces, .ref m_when, .ref m_ahead, .ref m_order, .ref m_tried, .ref m_chosen, .ref m_forms, .ref m_warmth, .ref m_degrees, .ref m_thousandths, .ref m_longest, .long 0, .long 0])), (m_forms, .inl (cI, 3, .inl u_forms))]) := by
  refine Met.ofW (cc := cX4_freeOf) (maxL := 6) (ret := (some .int)) (by decide) rfl ?_
  intro p e s m args below meth c s₁ B hml hv
  obtain ⟨rfl, hsz, hP, hK, hD0, hN⟩ := hv
  have hx := B.exec
  have hb := B.bytes
  have hr := B.returns
  have hts := atoms_spec (ws := wsX4_freeOf) B.pre
  have hown : s.vm.findClass RX4 = some m.cls := findClass_of_methodNamed B.named
  have hlocks := B.notSynchronized
  subst hsz
  have hD := hD0.self (sz := s.heap.size)
  generalize hAe : va_A [(y0, .inr (4, [.int 0, .int 0, .int 0, .int 0, .int 100, .int 0, .int 500, .int 300, .ref m_kind, .ref m_floor, .ref m_volume, .ref m_size, .ref m_faces, .ref m_when, .ref m_ahead, .ref m_order, .ref m_tried, .ref m_chosen, .ref m_forms, .ref m_warmth, .ref m_degrees, .ref m_thousandths, .ref m_longest, .long 0, .long 0])), (m_forms, .inl (cI, 3, .inl u_forms))] s.heap.size = A at hD ⊢
  have hA : ∀ q : Nat, s.heap.size ≤ q → A q := fun q h => by rw [← hAe]; exact Or.inr h
  have hS : va_S A s.heap s.heap [] := va_S.rf
  have hl := lv_entry ([.ref y0, .int s1, .int d, .int bu]) (n := 6) (Nat.le_of_ble_eq_true rfl)
  rw [lg_entry_eq]
  generalize (lg_sl ([.ref y0, .int s1, .int d, .int bu]) ++ List.replicate (6 - (lg_sl ([.ref y0, .int s1, .int d, .int bu])).length) Slot.unset).toArray = ls at hl ⊢
  have hl : lv_has ls 6 [(0, .ref y0), (1, .int s1), (2, .int d), (3, .int bu)] := hl
  have hP0 := hP
  refine lv_aload_n hx hb dX4_freeOf_0 rfl (lv_at hl 0 rfl) ?_
  refine va_get (D := D) (ci := 4) (v := .ref m_forms) (C := RX4) (T := TX4) (N := 25) hx hb hts iw_X4_freeOf_0_4 hown hK hP 0 rfl rfl 18 (by decide) (hts _ wd_X4_freeOf_0_1) (fun _ h9 => h9) rfl dX4_freeOf_1 ?_
  refine lv_iload_n hx hb dX4_freeOf_4 rfl (lv_at hl 1 rfl) ?_
  refine va_iald hx hb hK hP 1 0 rfl rfl (pf_X4_freeOf_0_1 u_forms s1 hf hs) dX4_freeOf_5 ?_
  refine lv_topi (fun v_1 ev_1 => ?_)
  refine lv_istore (lv' := [(4, .int v_1), (0, .ref y0), (1, .int s1), (2, .int d), (3, .int bu)]) hx hb dX4_freeOf_6 hl (by decide) rfl (fun ls hl => ?_)
  refine lv_iconst (v := 0) hx hb dX4_freeOf_8 (by decide) ?_
  refine lv_istore (lv' := [(5, .int 0), (4, .int v_1), (0, .ref y0), (1, .int s1), (2, .int d), (3, .int bu)]) hx hb dX4_freeOf_9 hl (by decide) rfl (fun ls hl => ?_)
  refine lv_iload hx hb dX4_freeOf_11 (lv_at hl 0 rfl) ?_
  refine lv_aload_n hx hb dX4_freeOf_13 rfl (lv_at hl 2 rfl) ?_
  refine va_get (D := D) (ci := 4) (v := .int 0) (C := RX4) (T := TX4) (N := 25) hx hb hts iw_X4_freeOf_0_4 hown hK hP 0 rfl rfl 0 (by decide) (hts _ wd_X4_freeOf_0_2) (fun _ h9 => h9) rfl dX4_freeOf_14 ?_
  refine lv_icmp_ge (tgt := 65) hx hb dX4_freeOf_17 (by decide) (fun _ => ?_) (fun h => absurd (by decide) h)
  refine lv_iload hx hb dX4_freeOf_65 (lv_at hl 1 rfl) ?_
  refine W.widen (k := 0) (n := 0) (Nat.le_of_ble_eq_true rfl) (Nat.le_of_ble_eq_true rfl) ?_
  exact fi_i () hx hb hr hlocks hK (hP.sub [0, 1] rfl) (hD.sub [0, 1] (by decide) rfl) hS (pf_X4_freeOf_0_2 u_forms s1 v_1 hf hs ev_1) dX4_freeOf_67

set_option maxHeartbeats 1000000 in
theorem pf_X4_free_1 (u_forms : Nat → Int32) (s1 : Int32) (d : Int32) (hf : ∀ j, j < 3 → u_forms j = 10) (c_1 : s1 < 0) : (-1 : Int32) = an_free s1 d := by
  grind [an_free, bDay]
set_option maxHeartbeats 1000000 in
theorem pf_X4_free_2 (u_forms : Nat → Int32) (s1 : Int32) (d : Int32) (hf : ∀ j, j < 3 → u_forms j = 10) (c_1 : ¬ s1 < 0) (c_2 : 2 < s1) : (-1 : Int32) = an_free s1 d := by
  grind [an_free, bDay]
set_option maxHeartbeats 1000000 in
theorem pf_X4_free_3 (u_forms : Nat → Int32) (s1 : Int32) (d : Int32) (r_3 : Int32) (hf : ∀ j, j < 3 → u_forms j = 10) (c_1 : ¬ s1 < 0) (c_2 : ¬ 2 < s1) (w_4 : r_3 = bDay d) (c_6 : r_3 = 0) : (-1 : Int32) = an_free s1 d := by
  grind [an_free, bDay]
set_option maxHeartbeats 1000000 in
theorem pf_X4_free_4 (u_forms : Nat → Int32) (s1 : Int32) (d : Int32) (r_3 : Int32) (hf : ∀ j, j < 3 → u_forms j = 10) (c_1 : ¬ s1 < 0) (c_2 : ¬ 2 < s1) (w_4 : r_3 = bDay d) (c_6 : ¬ r_3 = 0) : ∀ j, j < 3 → u_forms j = 10 := by
  exact hf
set_option maxHeartbeats 1000000 in
theorem pf_X4_free_5 (u_forms : Nat → Int32) (s1 : Int32) (d : Int32) (r_3 : Int32) (hf : ∀ j, j < 3 → u_forms j = 10) (c_1 : ¬ s1 < 0) (c_2 : ¬ 2 < s1) (w_4 : r_3 = bDay d) (c_6 : ¬ r_3 = 0) : vp_in s1 3 := by
  exact vi_in (M := 3) rfl (by grind) (by grind)
set_option maxHeartbeats 1000000 in
theorem pf_X4_free_6 (u_forms : Nat → Int32) (s1 : Int32) (d : Int32) (r_3 : Int32) (r_7 : Int32) (hf : ∀ j, j < 3 → u_forms j = 10) (c_1 : ¬ s1 < 0) (c_2 : ¬ 2 < s1) (w_4 : r_3 = bDay d) (c_6 : ¬ r_3 = 0) (w_8 : r_7 = 10) : r_7 = an_free s1 d := by
  grind [an_free, bDay]
set_option maxHeartbeats 4000000 in
set_option maxRecDepth 100000 in
theorem c_X4_free (l : Launch) (D : va_G) (cI : ClassId) (sz : Nat) (y0 : Nat) (m_forms : Nat) (m_kind : Nat) (m_floor : Nat) (m_volume : Nat) (m_size : Nat) (m_faces : Nat) (m_when : Nat) (m_ahead : Nat) (m_order : Nat) (m_tried : Nat) (m_chosen : Nat) (m_warmth : Nat) (m_degrees : Nat) (m_thousandths : Nat) (m_longest : Nat) (u_forms : Nat → Int32) (s1 : Int32) (d : Int32) (hf : ∀ j, j < 3 → u_forms j = 10) : CtI l yX4_free wsX4_free 1 25 0 0 [.ref y0, .int s1, .int d] D [(cI, .int)] [(y0, .inr (4, [.int 0, .int 0, .int 0, .int 0, .int 100, .int 0, .int 500, .int 300, .ref m_kind, .ref m_floor, .ref m_volume, .ref m_size, .ref m_faces, .ref m_when, .ref m_ahead, .ref m_order, .ref m_tried, .ref m_chosen, .ref m_forms, .ref m_warmth, .ref m_degrees, .ref m_thousandths, .ref m_longest, .long 0, .long 0])), (m_forms, .inl (cI, 3, .inl u_forms))] sz (fun (r : Int32) (u : Unit) => r = an_free s1 d) (fun (u : Unit) => [(y0, .inr (4, [.int 0, .int 0, .int 0, .int 0, .int 100, .int 0, .int 500, .int 300, .ref m_kind, .ref m_floor, .ref m_volume, .ref m_size, .ref m_faces, .ref m_when, .ref m_ahead, .ref m_order, .ref m_tried, .ref m_chosen, .ref m_forms, .ref m_warmth, .ref m_degrees, .ref m_thousandths, .ref m_longest, .long 0, .long 0])), (m_forms, .inl (cI, 3, .inl u_forms))]) := by
  refine Met.ofW (cc := cX4_free) (maxL := 3) (ret := (some .int)) (by decide) rfl ?_
  intro p e s m args below meth c s₁ B hml hv
  obtain ⟨rfl, hsz, hP, hK, hD0, hN⟩ := hv
  have hx := B.exec
  have hb := B.bytes
  have hr := B.returns
  have hts := atoms_spec (ws := wsX4_free) B.pre
  have hown : s.vm.findClass RX4 = some m.cls := findClass_of_methodNamed B.named
  have hlocks := B.notSynchronized
  subst hsz
  have hD := hD0.self (sz := s.heap.size)
  generalize hAe : va_A [(y0, .inr (4, [.int 0, .int 0, .int 0, .int 0, .int 100, .int 0, .int 500, .int 300, .ref m_kind, .ref m_floor, .ref m_volume, .ref m_size, .ref m_faces, .ref m_when, .ref m_ahead, .ref m_order, .ref m_tried, .ref m_chosen, .ref m_forms, .ref m_warmth, .ref m_degrees, .ref m_thousandths, .ref m_longest, .long 0, .long 0])), (m_forms, .inl (cI, 3, .inl u_forms))] s.heap.size = A at hD ⊢
  have hA : ∀ q : Nat, s.heap.size ≤ q → A q := fun q h => by rw [← hAe]; exact Or.inr h
  have hS : va_S A s.heap s.heap [] := va_S.rf
  have hl := lv_entry ([.ref y0, .int s1, .int d]) (n := 3) (Nat.le_of_ble_eq_true rfl)
  rw [lg_entry_eq]
  generalize (lg_sl ([.ref y0, .int s1, .int d]) ++ List.replicate (3 - (lg_sl ([.ref y0, .int s1, .int d])).length) Slot.unset).toArray = ls at hl ⊢
  have hl : lv_has ls 3 [(0, .ref y0), (1, .int s1), (2, .int d)] := hl
  have hP0 := hP
  refine lv_iload_n hx hb dX4_free_0 rfl (lv_at hl 1 rfl) ?_
  refine lv_if_lt (tgt := 26) hx hb dX4_free_1 (by decide) (fun c_1 => ?_) (fun c_1 => ?_)
  · refine lv_iconst (v := (-1)) hx hb dX4_free_26 (by decide) ?_
    refine W.widen (k := 0) (n := 0) (Nat.le_of_ble_eq_true rfl) (Nat.le_of_ble_eq_true rfl) ?_
    exact fi_i () hx hb hr hlocks hK (hP.sub [0, 1] rfl) (hD.sub [0, 1] (by decide) rfl) hS (pf_X4_free_1 u_forms s1 d hf c_1) dX4_free_27
  · refine lv_iload_n hx hb dX4_free_4 rfl (lv_at hl 1 rfl) ?_
    refine lv_iconst (v := 2) hx hb dX4_free_5 (by decide) ?_
    refine lv_icmp_gt (tgt := 26) hx hb dX4_free_6 (by decide) (fun c_2 => ?_) (fun c_2 => ?_)
    · refine lv_iconst (v := (-1)) hx hb dX4_free_26 (by decide) ?_
      refine W.widen (k := 0) (n := 0) (Nat.le_of_ble_eq_true rfl) (Nat.le_of_ble_eq_true rfl) ?_
      exact fi_i () hx hb hr hlocks hK (hP.sub [0, 1] rfl) (hD.sub [0, 1] (by decide) rfl) hS (pf_X4_free_2 u_forms s1 d hf c_1 c_2) dX4_free_27
    · refine lv_iload_n hx hb dX4_free_9 rfl (lv_at hl 2 rfl) ?_
      refine cc_i (wc := []) (wr := [(y0, .inr (4, [.int 0, .int 0, .int 0, .int 0, .int 100, .int 0, .int 500, .int 300, .ref m_kind, .ref m_floor, .ref m_volume, .ref m_size, .ref m_faces, .ref m_when, .ref m_ahead, .ref m_order, .ref m_tried, .ref m_chosen, .ref m_forms, .ref m_warmth, .ref m_degrees, .ref m_thousandths, .ref m_longest, .long 0, .long 0])), (m_forms, .inl (cI, 3, .inl u_forms))]) (va_runS (As := [.int d]) (rest := []) ⟨hx, hb, hml, hown, hts⟩ (c_X4_isDay l D cI s.heap.size d ) (va_cwS 1 hts gX4_free_X4_isDay rfl rfl rfl (by decide +kernel) ⟨Nat.le_of_ble_eq_true rfl, Nat.le_of_ble_eq_true rfl⟩) (preS (wc := []) hK hP hD hN [] rfl (by decide)) rfl rfl hl.1 rfl (lv_room (Nat.le_of_ble_eq_true rfl)) dX4_free_10 ⟨Nat.le_of_ble_eq_true rfl, Nat.le_of_ble_eq_true rfl⟩) hP hD hS hA [] [0, 1] rfl rfl (by decide) (by decide) (fun r_3 u H locs w_4 hP hD hS => ?_)
      have hP : va_P D vwCl [(y0, .inr (4, [.int 0, .int 0, .int 0, .int 0, .int 100, .int 0, .int 500, .int 300, .ref m_kind, .ref m_floor, .ref m_volume, .ref m_size, .ref m_faces, .ref m_when, .ref m_ahead, .ref m_order, .ref m_tried, .ref m_chosen, .ref m_forms, .ref m_warmth, .ref m_degrees, .ref m_thousandths, .ref m_longest, .long 0, .long 0])), (m_forms, .inl (cI, 3, .inl u_forms))] H := hP
      have hD : va_D A [(y0, .inr (4, [.int 0, .int 0, .int 0, .int 0, .int 100, .int 0, .int 500, .int 300, .ref m_kind, .ref m_floor, .ref m_volume, .ref m_size, .ref m_faces, .ref m_when, .ref m_ahead, .ref m_order, .ref m_tried, .ref m_chosen, .ref m_forms, .ref m_warmth, .ref m_degrees, .ref m_thousandths, .ref m_longest, .long 0, .long 0])), (m_forms, .inl (cI, 3, .inl u_forms))] := hD
      have w_4 : r_3 = bDay d := w_4
      refine lv_if_eq (tgt := 26) hx hb dX4_free_13 (by decide) (fun c_6 => ?_) (fun c_6 => ?_)
      · refine lv_iconst (v := (-1)) hx hb dX4_free_26 (by decide) ?_
        refine W.widen (k := 0) (n := 0) (Nat.le_of_ble_eq_true rfl) (Nat.le_of_ble_eq_true rfl) ?_
        exact fi_i () hx hb hr hlocks hK (hP.sub [0, 1] rfl) (hD.sub [0, 1] (by decide) rfl) hS (pf_X4_free_3 u_forms s1 d r_3 hf c_1 c_2 w_4 c_6) dX4_free_27
      · refine lv_aload_n hx hb dX4_free_16 rfl (lv_at hl 0 rfl) ?_
        refine lv_iload_n hx hb dX4_free_17 rfl (lv_at hl 1 rfl) ?_
        refine lv_iload_n hx hb dX4_free_18 rfl (lv_at hl 2 rfl) ?_
        refine lv_iconst (v := (-1)) hx hb dX4_free_19 (by decide) ?_
        refine cc_i (wc := [(y0, .inr (4, [.int 0, .int 0, .int 0, .int 0, .int 100, .int 0, .int 500, .int 300, .ref m_kind, .ref m_floor, .ref m_volume, .ref m_size, .ref m_faces, .ref m_when, .ref m_ahead, .ref m_order, .ref m_tried, .ref m_chosen, .ref m_forms, .ref m_warmth, .ref m_degrees, .ref m_thousandths, .ref m_longest, .long 0, .long 0])), (m_forms, .inl (cI, 3, .inl u_forms))]) (wr := []) (va_runV (As := [.int s1, .int d, .int (-1)]) (rest := []) ⟨hx, hb, hml, hown, hts⟩ (c_X4_freeOf_0 l D cI H.size y0 m_forms m_kind m_floor m_volume m_size m_faces m_when m_ahead m_order m_tried m_chosen m_warmth m_degrees m_thousandths m_longest u_forms s1 d (-1) (pf_X4_free_4 u_forms s1 d r_3 hf c_1 c_2 w_4 c_6) (pf_X4_free_5 u_forms s1 d r_3 hf c_1 c_2 w_4 c_6)) (cwV 3 hts gX4_free_X4_freeOf rfl rfl rfl (by decide +kernel) ⟨Nat.le_of_ble_eq_true rfl, Nat.le_of_ble_eq_true rfl⟩) (preV (wc := [(y0, .inr (4, [.int 0, .int 0, .int 0, .int 0, .int 100, .int 0, .int 500, .int 300, .ref m_kind, .ref m_floor, .ref m_volume, .ref m_size, .ref m_faces, .ref m_when, .ref m_ahead, .ref m_order, .ref m_tried, .ref m_chosen, .ref m_forms, .ref m_warmth, .ref m_degrees, .ref m_thousandths, .ref m_longest, .long 0, .long 0])), (m_forms, .inl (cI, 3, .inl u_forms))]) (ci := 4) (q0 := 0) hK hP hD hN [0, 1] rfl (by decide) rfl rfl) rfl rfl hl.1 rfl (lv_room (Nat.le_of_ble_eq_true rfl)) dX4_free_20 ⟨Nat.le_of_ble_eq_true rfl, Nat.le_of_ble_eq_true rfl⟩) hP hD hS hA [0, 1] [] rfl rfl (by decide) (by decide) (fun r_7 u H locs w_8 hP hD hS => ?_)
        have hP : va_P D vwCl [(y0, .inr (4, [.int 0, .int 0, .int 0, .int 0, .int 100, .int 0, .int 500, .int 300, .ref m_kind, .ref m_floor, .ref m_volume, .ref m_size, .ref m_faces, .ref m_when, .ref m_ahead, .ref m_order, .ref m_tried, .ref m_chosen, .ref m_forms, .ref m_warmth, .ref m_degrees, .ref m_thousandths, .ref m_longest, .long 0, .long 0])), (m_forms, .inl (cI, 3, .inl u_forms))] H := hP
        have hD : va_D A [(y0, .inr (4, [.int 0, .int 0, .int 0, .int 0, .int 100, .int 0, .int 500, .int 300, .ref m_kind, .ref m_floor, .ref m_volume, .ref m_size, .ref m_faces, .ref m_when, .ref m_ahead, .ref m_order, .ref m_tried, .ref m_chosen, .ref m_forms, .ref m_warmth, .ref m_degrees, .ref m_thousandths, .ref m_longest, .long 0, .long 0])), (m_forms, .inl (cI, 3, .inl u_forms))] := hD
        have w_8 : r_7 = 10 := w_8
        refine lv_goto (tgt := 27) hx hb dX4_free_23 (by decide) ?_
        refine W.widen (k := 0) (n := 0) (Nat.le_of_ble_eq_true rfl) (Nat.le_of_ble_eq_true rfl) ?_
        exact fi_i () hx hb hr hlocks hK (hP.sub [0, 1] rfl) (hD.sub [0, 1] (by decide) rfl) hS (pf_X4_free_6 u_forms s1 d r_3 r_7 hf c_1 c_2 w_4 c_6 w_8) dX4_free_27

theorem iw_X4_volumes_0_4 : ∀ w ∈ wsX40, w ∈ wsX4_volumes := fun w h => (List.mem_cons_of_mem _ (List.mem_append_right _ h))
theorem wd_X4_volumes_0_1 : (.fieldLink RX4 67 "PourPlanModel" "pieces" "I" : Cond) ∈ wsX4_volumes := List.mem_of_getElem? (i := 1) rfl
set_option maxHeartbeats 1000000 in
theorem pf_X4_volumes_0_1   : (0 : Int32) = 0 := by
  grind
set_option maxHeartbeats 4000000 in
set_option maxRecDepth 100000 in
theorem c_X4_volumes_0 (l : Launch) (D : va_G) (cI : ClassId) (sz : Nat) (y0 : Nat) (m_kind : Nat) (m_floor : Nat) (m_volume : Nat) (m_size : Nat) (m_faces : Nat) (m_when : Nat) (m_ahead : Nat) (m_order : Nat) (m_tried : Nat) (m_chosen : Nat) (m_forms : Nat) (m_warmth : Nat) (m_degrees : Nat) (m_thousandths : Nat) (m_longest : Nat) (d : Int32) (bu : Int32) : CtI l yX4_volumes wsX4_volumes 0 0 0 0 [.ref y0, .int d, .int bu] D [(cI, .int)] [(y0, .inr (4, [.int 0, .int 0, .int 0, .int 0, .int 100, .int 0, .int 500, .int 300, .ref m_kind, .ref m_floor, .ref m_volume, .ref m_size, .ref m_faces, .ref m_when, .ref m_ahead, .ref m_order, .ref m_tried, .ref m_chosen, .ref m_forms, .ref m_warmth, .ref m_degrees, .ref m_thousandths, .ref m_longest, .long 0, .long 0]))] sz (fun (r : Int32) (u : Unit) => r = 0) (fun (u : Unit) => [(y0, .inr (4, [.int 0, .int 0, .int 0, .int 0, .int 100, .int 0, .int 500, .int 300, .ref m_kind, .ref m_floor, .ref m_volume, .ref m_size, .ref m_faces, .ref m_when, .ref m_ahead, .ref m_order, .ref m_tried, .ref m_chosen, .ref m_forms, .ref m_warmth, .ref m_degrees, .ref m_thousandths, .ref m_longest, .long 0, .long 0]))]) := by
  refine Met.ofW (cc := cX4_volumes) (maxL := 5) (ret := (some .int)) (by decide) rfl ?_
  intro p e s m args below meth c s₁ B hml hv
  obtain ⟨rfl, hsz, hP, hK, hD0, hN⟩ := hv
  have hx := B.exec
  have hb := B.bytes
  have hr := B.returns
  have hts := atoms_spec (ws := wsX4_volumes) B.pre
  have hown : s.vm.findClass RX4 = some m.cls := findClass_of_methodNamed B.named
  have hlocks := B.notSynchronized
  subst hsz
  have hD := hD0.self (sz := s.heap.size)
  generalize hAe : va_A [(y0, .inr (4, [.int 0, .int 0, .int 0, .int 0, .int 100, .int 0, .int 500, .int 300, .ref m_kind, .ref m_floor, .ref m_volume, .ref m_size, .ref m_faces, .ref m_when, .ref m_ahead, .ref m_order, .ref m_tried, .ref m_chosen, .ref m_forms, .ref m_warmth, .ref m_degrees, .ref m_thousandths, .ref m_longest, .long 0, .long 0]))] s.heap.size = A at hD ⊢
  have hA : ∀ q : Nat, s.heap.size ≤ q → A q := fun q h => by rw [← hAe]; exact Or.inr h
  have hS : va_S A s.heap s.heap [] := va_S.rf
  have hl := lv_entry ([.ref y0, .int d, .int bu]) (n := 5) (Nat.le_of_ble_eq_true rfl)
  rw [lg_entry_eq]
  generalize (lg_sl ([.ref y0, .int d, .int bu]) ++ List.replicate (5 - (lg_sl ([.ref y0, .int d, .int bu])).length) Slot.unset).toArray = ls at hl ⊢
  have hl : lv_has ls 5 [(0, .ref y0), (1, .int d), (2, .int bu)] := hl
  have hP0 := hP
  refine lv_iconst (v := 0) hx hb dX4_volumes_0 (by decide) ?_
  refine lv_istore_n (lv' := [(3, .int 0), (0, .ref y0), (1, .int d), (2, .int bu)]) hx hb dX4_volumes_1 rfl hl (by decide) rfl (fun ls hl => ?_)
  refine lv_iconst (v := 0) hx hb dX4_volumes_2 (by decide) ?_
  refine lv_istore (lv' := [(4, .int 0), (3, .int 0), (0, .ref y0), (1, .int d), (2, .int bu)]) hx hb dX4_volumes_3 hl (by decide) rfl (fun ls hl => ?_)
  refine lv_iload hx hb dX4_volumes_5 (lv_at hl 0 rfl) ?_
  refine lv_aload_n hx hb dX4_volumes_7 rfl (lv_at hl 2 rfl) ?_
  refine va_get (D := D) (ci := 4) (v := .int 0) (C := RX4) (T := TX4) (N := 25) hx hb hts iw_X4_volumes_0_4 hown hK hP 0 rfl rfl 0 (by decide) (hts _ wd_X4_volumes_0_1) (fun _ h9 => h9) rfl dX4_volumes_8 ?_
  refine lv_icmp_ge (tgt := 47) hx hb dX4_volumes_11 (by decide) (fun _ => ?_) (fun h => absurd (by decide) h)
  refine lv_iload_n hx hb dX4_volumes_47 rfl (lv_at hl 1 rfl) ?_
  refine W.widen (k := 0) (n := 0) (Nat.le_of_ble_eq_true rfl) (Nat.le_of_ble_eq_true rfl) ?_
  exact fi_i () hx hb hr hlocks hK (hP.sub [0] rfl) (hD.sub [0] (by decide) rfl) hS (pf_X4_volumes_0_1) dX4_volumes_48

set_option maxHeartbeats 1000000 in
theorem pf_X4_poured_1 (d : Int32) (r_1 : Int32) (w_2 : r_1 = bDay d) (c_4 : r_1 = 0) : (-1 : Int32) = an_poured d := by
  grind [an_poured, bDay]
set_option maxHeartbeats 1000000 in
theorem pf_X4_poured_2 (d : Int32) (r_1 : Int32) (r_5 : Int32) (w_2 : r_1 = bDay d) (c_4 : ¬ r_1 = 0) (w_6 : r_5 = 0) : r_5 = an_poured d := by
  grind [an_poured, bDay]
set_option maxHeartbeats 4000000 in
set_option maxRecDepth 100000 in
theorem c_X4_poured (l : Launch) (D : va_G) (cI : ClassId) (sz : Nat) (y0 : Nat) (m_kind : Nat) (m_floor : Nat) (m_volume : Nat) (m_size : Nat) (m_faces : Nat) (m_when : Nat) (m_ahead : Nat) (m_order : Nat) (m_tried : Nat) (m_chosen : Nat) (m_forms : Nat) (m_warmth : Nat) (m_degrees : Nat) (m_thousandths : Nat) (m_longest : Nat) (d : Int32) : CtI l yX4_poured wsX4_poured 1 24 0 0 [.ref y0, .int d] D [(cI, .int)] [(y0, .inr (4, [.int 0, .int 0, .int 0, .int 0, .int 100, .int 0, .int 500, .int 300, .ref m_kind, .ref m_floor, .ref m_volume, .ref m_size, .ref m_faces, .ref m_when, .ref m_ahead, .ref m_order, .ref m_tried, .ref m_chosen, .ref m_forms, .ref m_warmth, .ref m_degrees, .ref m_thousandths, .ref m_longest, .long 0, .long 0]))] sz (fun (r : Int32) (u : Unit) => r = an_poured d) (fun (u : Unit) => [(y0, .inr (4, [.int 0, .int 0, .int 0, .int 0, .int 100, .int 0, .int 500, .int 300, .ref m_kind, .ref m_floor, .ref m_volume, .ref m_size, .ref m_faces, .ref m_when, .ref m_ahead, .ref m_order, .ref m_tried, .ref m_chosen, .ref m_forms, .ref m_warmth, .ref m_degrees, .ref m_thousandths, .ref m_longest, .long 0, .long 0]))]) := by
  refine Met.ofW (cc := cX4_poured) (maxL := 2) (ret := (some .int)) (by decide) rfl ?_
  intro p e s m args below meth c s₁ B hml hv
  obtain ⟨rfl, hsz, hP, hK, hD0, hN⟩ := hv
  have hx := B.exec
  have hb := B.bytes
  have hr := B.returns
  have hts := atoms_spec (ws := wsX4_poured) B.pre
  have hown : s.vm.findClass RX4 = some m.cls := findClass_of_methodNamed B.named
  have hlocks := B.notSynchronized
  subst hsz
  have hD := hD0.self (sz := s.heap.size)
  generalize hAe : va_A [(y0, .inr (4, [.int 0, .int 0, .int 0, .int 0, .int 100, .int 0, .int 500, .int 300, .ref m_kind, .ref m_floor, .ref m_volume, .ref m_size, .ref m_faces, .ref m_when, .ref m_ahead, .ref m_order, .ref m_tried, .ref m_chosen, .ref m_forms, .ref m_warmth, .ref m_degrees, .ref m_thousandths, .ref m_longest, .long 0, .long 0]))] s.heap.size = A at hD ⊢
  have hA : ∀ q : Nat, s.heap.size ≤ q → A q := fun q h => by rw [← hAe]; exact Or.inr h
  have hS : va_S A s.heap s.heap [] := va_S.rf
  have hl := lv_entry ([.ref y0, .int d]) (n := 2) (Nat.le_of_ble_eq_true rfl)
  rw [lg_entry_eq]
  generalize (lg_sl ([.ref y0, .int d]) ++ List.replicate (2 - (lg_sl ([.ref y0, .int d])).length) Slot.unset).toArray = ls at hl ⊢
  have hl : lv_has ls 2 [(0, .ref y0), (1, .int d)] := hl
  have hP0 := hP
  refine lv_iload_n hx hb dX4_poured_0 rfl (lv_at hl 1 rfl) ?_
  refine cc_i (wc := []) (wr := [(y0, .inr (4, [.int 0, .int 0, .int 0, .int 0, .int 100, .int 0, .int 500, .int 300, .ref m_kind, .ref m_floor, .ref m_volume, .ref m_size, .ref m_faces, .ref m_when, .ref m_ahead, .ref m_order, .ref m_tried, .ref m_chosen, .ref m_forms, .ref m_warmth, .ref m_degrees, .ref m_thousandths, .ref m_longest, .long 0, .long 0]))]) (va_runS (As := [.int d]) (rest := []) ⟨hx, hb, hml, hown, hts⟩ (c_X4_isDay l D cI s.heap.size d ) (va_cwS 1 hts gX4_poured_X4_isDay rfl rfl rfl (by decide +kernel) ⟨Nat.le_of_ble_eq_true rfl, Nat.le_of_ble_eq_true rfl⟩) (preS (wc := []) hK hP hD hN [] rfl (by decide)) rfl rfl hl.1 rfl (lv_room (Nat.le_of_ble_eq_true rfl)) dX4_poured_1 ⟨Nat.le_of_ble_eq_true rfl, Nat.le_of_ble_eq_true rfl⟩) hP hD hS hA [] [0] rfl rfl (by decide) (by decide) (fun r_1 u H locs w_2 hP hD hS => ?_)
  have hP : va_P D vwCl [(y0, .inr (4, [.int 0, .int 0, .int 0, .int 0, .int 100, .int 0, .int 500, .int 300, .ref m_kind, .ref m_floor, .ref m_volume, .ref m_size, .ref m_faces, .ref m_when, .ref m_ahead, .ref m_order, .ref m_tried, .ref m_chosen, .ref m_forms, .ref m_warmth, .ref m_degrees, .ref m_thousandths, .ref m_longest, .long 0, .long 0]))] H := hP
  have hD : va_D A [(y0, .inr (4, [.int 0, .int 0, .int 0, .int 0, .int 100, .int 0, .int 500, .int 300, .ref m_kind, .ref m_floor, .ref m_volume, .ref m_size, .ref m_faces, .ref m_when, .ref m_ahead, .ref m_order, .ref m_tried, .ref m_chosen, .ref m_forms, .ref m_warmth, .ref m_degrees, .ref m_thousandths, .ref m_longest, .long 0, .long 0]))] := hD
  have w_2 : r_1 = bDay d := w_2
  refine lv_if_eq (tgt := 16) hx hb dX4_poured_4 (by decide) (fun c_4 => ?_) (fun c_4 => ?_)
  · refine lv_iconst (v := (-1)) hx hb dX4_poured_16 (by decide) ?_
    refine W.widen (k := 0) (n := 0) (Nat.le_of_ble_eq_true rfl) (Nat.le_of_ble_eq_true rfl) ?_
    exact fi_i () hx hb hr hlocks hK (hP.sub [0] rfl) (hD.sub [0] (by decide) rfl) hS (pf_X4_poured_1 d r_1 w_2 c_4) dX4_poured_17
  · refine lv_aload_n hx hb dX4_poured_7 rfl (lv_at hl 0 rfl) ?_
    refine lv_iload_n hx hb dX4_poured_8 rfl (lv_at hl 1 rfl) ?_
    refine lv_iconst (v := (-1)) hx hb dX4_poured_9 (by decide) ?_
    refine cc_i (wc := [(y0, .inr (4, [.int 0, .int 0, .int 0, .int 0, .int 100, .int 0, .int 500, .int 300, .ref m_kind, .ref m_floor, .ref m_volume, .ref m_size, .ref m_faces, .ref m_when, .ref m_ahead, .ref m_order, .ref m_tried, .ref m_chosen, .ref m_forms, .ref m_warmth, .ref m_degrees, .ref m_thousandths, .ref m_longest, .long 0, .long 0]))]) (wr := []) (va_runV (As := [.int d, .int (-1)]) (rest := []) ⟨hx, hb, hml, hown, hts⟩ (c_X4_volumes_0 l D cI H.size y0 m_kind m_floor m_volume m_size m_faces m_when m_ahead m_order m_tried m_chosen m_forms m_warmth m_degrees m_thousandths m_longest d (-1) ) (cwV 2 hts gX4_poured_X4_volumes rfl rfl rfl (by decide +kernel) ⟨Nat.le_of_ble_eq_true rfl, Nat.le_of_ble_eq_true rfl⟩) (preV (wc := [(y0, .inr (4, [.int 0, .int 0, .int 0, .int 0, .int 100, .int 0, .int 500, .int 300, .ref m_kind, .ref m_floor, .ref m_volume, .ref m_size, .ref m_faces, .ref m_when, .ref m_ahead, .ref m_order, .ref m_tried, .ref m_chosen, .ref m_forms, .ref m_warmth, .ref m_degrees, .ref m_thousandths, .ref m_longest, .long 0, .long 0]))]) (ci := 4) (q0 := 0) hK hP hD hN [0] rfl (by decide) rfl rfl) rfl rfl hl.1 rfl (lv_room (Nat.le_of_ble_eq_true rfl)) dX4_poured_10 ⟨Nat.le_of_ble_eq_true rfl, Nat.le_of_ble_eq_true rfl⟩) hP hD hS hA [0] [] rfl rfl (by decide) (by decide) (fun r_5 u H locs w_6 hP hD hS => ?_)
    have hP : va_P D vwCl [(y0, .inr (4, [.int 0, .int 0, .int 0, .int 0, .int 100, .int 0, .int 500, .int 300, .ref m_kind, .ref m_floor, .ref m_volume, .ref m_size, .ref m_faces, .ref m_when, .ref m_ahead, .ref m_order, .ref m_tried, .ref m_chosen, .ref m_forms, .ref m_warmth, .ref m_degrees, .ref m_thousandths, .ref m_longest, .long 0, .long 0]))] H := hP
    have hD : va_D A [(y0, .inr (4, [.int 0, .int 0, .int 0, .int 0, .int 100, .int 0, .int 500, .int 300, .ref m_kind, .ref m_floor, .ref m_volume, .ref m_size, .ref m_faces, .ref m_when, .ref m_ahead, .ref m_order, .ref m_tried, .ref m_chosen, .ref m_forms, .ref m_warmth, .ref m_degrees, .ref m_thousandths, .ref m_longest, .long 0, .long 0]))] := hD
    have w_6 : r_5 = 0 := w_6
    refine lv_goto (tgt := 17) hx hb dX4_poured_13 (by decide) ?_
    refine W.widen (k := 0) (n := 0) (Nat.le_of_ble_eq_true rfl) (Nat.le_of_ble_eq_true rfl) ?_
    exact fi_i () hx hb hr hlocks hK (hP.sub [0] rfl) (hD.sub [0] (by decide) rfl) hS (pf_X4_poured_2 d r_1 r_5 w_2 c_4 w_6) dX4_poured_17

theorem iw_X4_count_4 : ∀ w ∈ wsX40, w ∈ wsX4_count := fun w h => (List.mem_cons_of_mem _ (List.mem_append_right _ h))
theorem wd_X4_count_1 : (.fieldLink RX4 67 "PourPlanModel" "pieces" "I" : Cond) ∈ wsX4_count := List.mem_of_getElem? (i := 1) rfl
theorem wd_X4_count_3 : (.fieldLink RX4 118 "PourPlanModel" "now" "I" : Cond) ∈ wsX4_count := List.mem_of_getElem? (i := 3) rfl
theorem wd_X4_count_4 : (.fieldLink RX4 88 "PourPlanModel" "points" "I" : Cond) ∈ wsX4_count := List.mem_of_getElem? (i := 4) rfl
theorem wd_X4_count_5 : (.fieldLink RX4 9 "PourPlanModel" "gang" "I" : Cond) ∈ wsX4_count := List.mem_of_getElem? (i := 5) rfl
theorem wd_X4_count_6 : (.fieldLink RX4 85 "PourPlanModel" "base" "I" : Cond) ∈ wsX4_count := List.mem_of_getElem? (i := 6) rfl
theorem wd_X4_count_7 : (.fieldLink RX4 128 "PourPlanModel" "end" "I" : Cond) ∈ wsX4_count := List.mem_of_getElem? (i := 7) rfl
set_option maxHeartbeats 1000000 in
theorem pf_X4_count_1 (w : Int32) (c_1 : w = 0) : (0 : Int32) = an_count w := by
  grind [an_count]
set_option maxHeartbeats 1000000 in
theorem pf_X4_count_2 (w : Int32) (c_1 : ¬ w = 0) (c_2 : w = 1) : (0 : Int32) = an_count w := by
  grind [an_count]
set_option maxHeartbeats 1000000 in
theorem pf_X4_count_3 (w : Int32) (c_1 : ¬ w = 0) (c_2 : ¬ w = 1) (c_4 : w = 2) : (0 : Int32) = an_count w := by
  grind [an_count]
set_option maxHeartbeats 1000000 in
theorem pf_X4_count_4 (w : Int32) (c_1 : ¬ w = 0) (c_2 : ¬ w = 1) (c_4 : ¬ w = 2) (c_5 : w = 3) : (0 : Int32) = an_count w := by
  grind [an_count]
set_option maxHeartbeats 1000000 in
theorem pf_X4_count_5 (w : Int32) (c_1 : ¬ w = 0) (c_2 : ¬ w = 1) (c_4 : ¬ w = 2) (c_5 : ¬ w = 3) (c_6 : w = 4) : (100 : Int32) = an_count w := by
  grind [an_count]
set_option maxHeartbeats 1000000 in
theorem pf_X4_count_6 (w : Int32) (c_1 : ¬ w = 0) (c_2 : ¬ w = 1) (c_4 : ¬ w = 2) (c_5 : ¬ w = 3) (c_6 : ¬ w = 4) (c_7 : w = 5) : (0 : Int32) = an_count w := by
  grind [an_count]
set_option maxHeartbeats 1000000 in
theorem pf_X4_count_7 (w : Int32) (c_1 : ¬ w = 0) (c_2 : ¬ w = 1) (c_4 : ¬ w = 2) (c_5 : ¬ w = 3) (c_6 : ¬ w = 4) (c_7 : ¬ w = 5) (c_8 : w = 6) : (0 : Int32) = an_count w := by
  grind [an_count]
set_option maxHeartbeats 1000000 in
theorem pf_X4_count_8 (w : Int32) (c_1 : ¬ w = 0) (c_2 : ¬ w = 1) (c_4 : ¬ w = 2) (c_5 : ¬ w = 3) (c_6 : ¬ w = 4) (c_7 : ¬ w = 5) (c_8 : ¬ w = 6) : (w).toInt < 0 ∨ 6 < (w).toInt := by
  exact tb_out (M := 6) rfl (by grind)
set_option maxHeartbeats 1000000 in
theorem pf_X4_count_9 (w : Int32) (c_1 : ¬ w = 0) (c_2 : ¬ w = 1) (c_4 : ¬ w = 2) (c_5 : ¬ w = 3) (c_6 : ¬ w = 4) (c_7 : ¬ w = 5) (c_8 : ¬ w = 6) : (-1 : Int32) = an_count w := by
  grind [an_count]
set_option maxHeartbeats 4000000 in
set_option maxRecDepth 100000 in
theorem c_X4_count (l : Launch) (D : va_G) (cI : ClassId) (sz : Nat) (y0 : Nat) (m_kind : Nat) (m_floor : Nat) (m_volume : Nat) (m_size : Nat) (m_faces : Nat) (m_when : Nat) (m_ahead : Nat) (m_order : Nat) (m_tried : Nat) (m_chosen : Nat) (m_forms : Nat) (m_warmth : Nat) (m_degrees : Nat) (m_thousandths : Nat) (m_longest : Nat) (w : Int32) : CtI l yX4_count wsX4_count 0 0 0 0 [.ref y0, .int w] D [(cI, .int)] [(y0, .inr (4, [.int 0, .int 0, .int 0, .int 0, .int 100, .int 0, .int 500, .int 300, .ref m_kind, .ref m_floor, .ref m_volume, .ref m_size, .ref m_faces, .ref m_when, .ref m_ahead, .ref m_order, .ref m_tried, .ref m_chosen, .ref m_forms, .ref m_warmth, .ref m_degrees, .ref m_thousandths, .ref m_longest, .long 0, .long 0]))] sz (fun (r : Int32) (u : Unit) => r = an_count w) (fun (u : Unit) => [(y0, .inr (4, [.int 0, .int 0, .int 0, .int 0, .int 100, .int 0, .int 500, .int 300, .ref m_kind, .ref m_floor, .ref m_volume, .ref m_size, .ref m_faces, .ref m_when, .ref m_ahead, .ref m_order, .ref m_tried, .ref m_chosen, .ref m_forms, .ref m_warmth, .ref m_degrees, .ref m_thousandths, .ref m_longest, .long 0, .long 0]))]) := by
  refine Met.ofW (cc := cX4_count) (maxL := 4) (ret := (some .int)) (by decide) rfl ?_
  intro p e s m args below meth c s₁ B hml hv
  obtain ⟨rfl, hsz, hP, hK, hD0, hN⟩ := hv
  have hx := B.exec
  have hb := B.bytes
  have hr := B.returns
  have hts := atoms_spec (ws := wsX4_count) B.pre
  have hown : s.vm.findClass RX4 = some m.cls := findClass_of_methodNamed B.named
  have hlocks := B.notSynchronized
  subst hsz
  have hD := hD0.self (sz := s.heap.size)
  generalize hAe : va_A [(y0, .inr (4, [.int 0, .int 0, .int 0, .int 0, .int 100, .int 0, .int 500, .int 300, .ref m_kind, .ref m_floor, .ref m_volume, .ref m_size, .ref m_faces, .ref m_when, .ref m_ahead, .ref m_order, .ref m_tried, .ref m_chosen, .ref m_forms, .ref m_warmth, .ref m_degrees, .ref m_thousandths, .ref m_longest, .long 0, .long 0]))] s.heap.size = A at hD ⊢
  have hA : ∀ q : Nat, s.heap.size ≤ q → A q := fun q h => by rw [← hAe]; exact Or.inr h
  have hS : va_S A s.heap s.heap [] := va_S.rf
  have hl := lv_entry ([.ref y0, .int w]) (n := 4) (Nat.le_of_ble_eq_true rfl)
  rw [lg_entry_eq]
  generalize (lg_sl ([.ref y0, .int w]) ++ List.replicate (4 - (lg_sl ([.ref y0, .int w])).length) Slot.unset).toArray = ls at hl ⊢
  have hl : lv_has ls 4 [(0, .ref y0), (1, .int w)] := hl
  have hP0 := hP
  refine lv_iload_n hx hb dX4_count_0 rfl (lv_at hl 1 rfl) ?_
  by_cases c_1 : w = 0
  · refine lv_tableIn (off := 43) (tgt := 44) hx hb dX4_count_1 (by rw [c_1]; decide) (by rw [c_1]; decide) (by rw [c_1]; rfl) (by decide) ?_
    refine lv_aload_n hx hb dX4_count_44 rfl (lv_at hl 0 rfl) ?_
    refine va_get (D := D) (ci := 4) (v := .int 0) (C := RX4) (T := TX4) (N := 25) hx hb hts iw_X4_count_4 hown hK hP 0 rfl rfl 0 (by decide) (hts _ wd_X4_count_1) (fun _ h9 => h9) rfl dX4_count_45 ?_
    refine W.widen (k := 0) (n := 0) (Nat.le_of_ble_eq_true rfl) (Nat.le_of_ble_eq_true rfl) ?_
    exact fi_i () hx hb hr hlocks hK (hP.sub [0] rfl) (hD.sub [0] (by decide) rfl) hS (pf_X4_count_1 w c_1) dX4_count_48
  by_cases c_2 : w = 1
  · refine lv_tableIn (off := 48) (tgt := 49) hx hb dX4_count_1 (by rw [c_2]; decide) (by rw [c_2]; decide) (by rw [c_2]; rfl) (by decide) ?_
    refine lv_iconst (v := 0) hx hb dX4_count_49 (by decide) ?_
    refine lv_istore_n (lv' := [(2, .int 0), (0, .ref y0), (1, .int w)]) hx hb dX4_count_50 rfl hl (by decide) rfl (fun ls hl => ?_)
    refine lv_iconst (v := 0) hx hb dX4_count_51 (by decide) ?_
    refine lv_istore_n (lv' := [(3, .int 0), (2, .int 0), (0, .ref y0), (1, .int w)]) hx hb dX4_count_52 rfl hl (by decide) rfl (fun ls hl => ?_)
    refine lv_iload_n hx hb dX4_count_53 rfl (lv_at hl 0 rfl) ?_
    refine lv_aload_n hx hb dX4_count_54 rfl (lv_at hl 2 rfl) ?_
    refine va_get (D := D) (ci := 4) (v := .int 0) (C := RX4) (T := TX4) (N := 25) hx hb hts iw_X4_count_4 hown hK hP 0 rfl rfl 0 (by decide) (hts _ wd_X4_count_1) (fun _ h9 => h9) rfl dX4_count_55 ?_
    refine lv_icmp_ge (tgt := 80) hx hb dX4_count_58 (by decide) (fun _ => ?_) (fun h => absurd (by decide) h)
    refine lv_iload_n hx hb dX4_count_80 rfl (lv_at hl 1 rfl) ?_
    refine W.widen (k := 0) (n := 0) (Nat.le_of_ble_eq_true rfl) (Nat.le_of_ble_eq_true rfl) ?_
    exact fi_i () hx hb hr hlocks hK (hP.sub [0] rfl) (hD.sub [0] (by decide) rfl) hS (pf_X4_count_2 w c_1 c_2) dX4_count_81
  by_cases c_4 : w = 2
  · refine lv_tableIn (off := 81) (tgt := 82) hx hb dX4_count_1 (by rw [c_4]; decide) (by rw [c_4]; decide) (by rw [c_4]; rfl) (by decide) ?_
    refine lv_aload_n hx hb dX4_count_82 rfl (lv_at hl 0 rfl) ?_
    refine va_get (D := D) (ci := 4) (v := .int 0) (C := RX4) (T := TX4) (N := 25) hx hb hts iw_X4_count_4 hown hK hP 0 rfl rfl 2 (by decide) (hts _ wd_X4_count_3) (fun _ h9 => h9) rfl dX4_count_83 ?_
    refine W.widen (k := 0) (n := 0) (Nat.le_of_ble_eq_true rfl) (Nat.le_of_ble_eq_true rfl) ?_
    exact fi_i () hx hb hr hlocks hK (hP.sub [0] rfl) (hD.sub [0] (by decide) rfl) hS (pf_X4_count_3 w c_1 c_2 c_4) dX4_count_86
  by_cases c_5 : w = 3
  · refine lv_tableIn (off := 86) (tgt := 87) hx hb dX4_count_1 (by rw [c_5]; decide) (by rw [c_5]; decide) (by rw [c_5]; rfl) (by decide) ?_
    refine lv_aload_n hx hb dX4_count_87 rfl (lv_at hl 0 rfl) ?_
    refine va_get (D := D) (ci := 4) (v := .int 0) (C := RX4) (T := TX4) (N := 25) hx hb hts iw_X4_count_4 hown hK hP 0 rfl rfl 1 (by decide) (hts _ wd_X4_count_4) (fun _ h9 => h9) rfl dX4_count_88 ?_
    refine W.widen (k := 0) (n := 0) (Nat.le_of_ble_eq_true rfl) (Nat.le_of_ble_eq_true rfl) ?_
    exact fi_i () hx hb hr hlocks hK (hP.sub [0] rfl) (hD.sub [0] (by decide) rfl) hS (pf_X4_count_4 w c_1 c_2 c_4 c_5) dX4_count_91
  by_cases c_6 : w = 4
  · refine lv_tableIn (off := 91) (tgt := 92) hx hb dX4_count_1 (by rw [c_6]; decide) (by rw [c_6]; decide) (by rw [c_6]; rfl) (by decide) ?_
    refine lv_aload_n hx hb dX4_count_92 rfl (lv_at hl 0 rfl) ?_
    refine va_get (D := D) (ci := 4) (v := .int 100) (C := RX4) (T := TX4) (N := 25) hx hb hts iw_X4_count_4 hown hK hP 0 rfl rfl 4 (by decide) (hts _ wd_X4_count_5) (fun _ h9 => h9) rfl dX4_count_93 ?_
    refine W.widen (k := 0) (n := 0) (Nat.le_of_ble_eq_true rfl) (Nat.le_of_ble_eq_true rfl) ?_
    exact fi_i () hx hb hr hlocks hK (hP.sub [0] rfl) (hD.sub [0] (by decide) rfl) hS (pf_X4_count_5 w c_1 c_2 c_4 c_5 c_6) dX4_count_96
  by_cases c_7 : w = 5
  · refine lv_tableIn (off := 96) (tgt := 97) hx hb dX4_count_1 (by rw [c_7]; decide) (by rw [c_7]; decide) (by rw [c_7]; rfl) (by decide) ?_
    refine lv_aload_n hx hb dX4_count_97 rfl (lv_at hl 0 rfl) ?_
    refine va_get (D := D) (ci := 4) (v := .int 0) (C := RX4) (T := TX4) (N := 25) hx hb hts iw_X4_count_4 hown hK hP 0 rfl rfl 5 (by decide) (hts _ wd_X4_count_6) (fun _ h9 => h9) rfl dX4_count_98 ?_
    refine W.widen (k := 0) (n := 0) (Nat.le_of_ble_eq_true rfl) (Nat.le_of_ble_eq_true rfl) ?_
    exact fi_i () hx hb hr hlocks hK (hP.sub [0] rfl) (hD.sub [0] (by decide) rfl) hS (pf_X4_count_6 w c_1 c_2 c_4 c_5 c_6 c_7) dX4_count_101
  by_cases c_8 : w = 6
  · refine lv_tableIn (off := 101) (tgt := 102) hx hb dX4_count_1 (by rw [c_8]; decide) (by rw [c_8]; decide) (by rw [c_8]; rfl) (by decide) ?_
    refine lv_aload_n hx hb dX4_count_102 rfl (lv_at hl 0 rfl) ?_
    refine va_get (D := D) (ci := 4) (v := .int 0) (C := RX4) (T := TX4) (N := 25) hx hb hts iw_X4_count_4 hown hK hP 0 rfl rfl 3 (by decide) (hts _ wd_X4_count_7) (fun _ h9 => h9) rfl dX4_count_103 ?_
    refine W.widen (k := 0) (n := 0) (Nat.le_of_ble_eq_true rfl) (Nat.le_of_ble_eq_true rfl) ?_
    exact fi_i () hx hb hr hlocks hK (hP.sub [0] rfl) (hD.sub [0] (by decide) rfl) hS (pf_X4_count_7 w c_1 c_2 c_4 c_5 c_6 c_7 c_8) dX4_count_106
  refine lv_tableOut (tgt := 107) hx hb dX4_count_1 (pf_X4_count_8 w c_1 c_2 c_4 c_5 c_6 c_7 c_8) (by decide) ?_
  refine lv_iconst (v := (-1)) hx hb dX4_count_107 (by decide) ?_
  refine W.widen (k := 0) (n := 0) (Nat.le_of_ble_eq_true rfl) (Nat.le_of_ble_eq_true rfl) ?_
  exact fi_i () hx hb hr hlocks hK (hP.sub [0] rfl) (hD.sub [0] (by decide) rfl) hS (pf_X4_count_9 w c_1 c_2 c_4 c_5 c_6 c_7 c_8) dX4_count_108
