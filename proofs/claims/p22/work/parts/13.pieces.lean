theorem iw_X1_has_1 : ∀ w ∈ wsX10, w ∈ wsX1_has := fun w h => (List.mem_cons_of_mem _ (List.mem_append_right _ h))
theorem wd_X1_has_1 : (.fieldLink RX1 38 "PourPlan$Pieces" "number" "I" : Cond) ∈ wsX1_has := List.mem_of_getElem? (i := 1) rfl
set_option maxHeartbeats 1000000 in
theorem pf_X1_has_1 (num : Int32) (a : Int32) (c_1 : a < 0) : (0 : Int32) = bHas a num := by
  grind [bHas]
set_option maxHeartbeats 1000000 in
theorem pf_X1_has_2 (num : Int32) (a : Int32) (c_1 : ¬ a < 0) (c_2 : num ≤ a) : (0 : Int32) = bHas a num := by
  grind [bHas]
set_option maxHeartbeats 1000000 in
theorem pf_X1_has_3 (num : Int32) (a : Int32) (c_1 : ¬ a < 0) (c_2 : ¬ num ≤ a) (c_3 : 10 ≤ a) : (0 : Int32) = bHas a num := by
  grind [bHas]
set_option maxHeartbeats 1000000 in
theorem pf_X1_has_4 (num : Int32) (a : Int32) (c_1 : ¬ a < 0) (c_2 : ¬ num ≤ a) (c_3 : ¬ 10 ≤ a) : (1 : Int32) = bHas a num := by
  grind [bHas]
set_option maxHeartbeats 4000000 in
set_option maxRecDepth 100000 in
theorem c_X1_has (l : Launch) (D : va_G) (cI cQ : ClassId) (sz : Nat) (h1 : Nat) (k0 : Nat) (k1 : Nat) (k2 : Nat) (k3 : Nat) (k4 : Nat) (k5 : Nat) (k6 : Nat) (k7 : Nat) (num : Int32) (a : Int32) : CtI l yX1_has wsX1_has 0 0 0 0 [.ref h1, .int a] D [(cI, .int), (cQ, .array .int)] [(h1, .inr (1, [.ref k0, .ref k1, .ref k2, .ref k3, .ref k4, .ref k5, .ref k6, .ref k7, .int num]))] sz (fun (r : Int32) (u : Unit) => r = bHas a num) (fun (u : Unit) => [(h1, .inr (1, [.ref k0, .ref k1, .ref k2, .ref k3, .ref k4, .ref k5, .ref k6, .ref k7, .int num]))]) := by
  refine Met.ofW (cc := cX1_has) (maxL := 2) (ret := (some .boolean)) (by decide) rfl ?_
  intro p e s m args below meth c s₁ B hml hv
  obtain ⟨rfl, hsz, hP, hK, hD0, hN⟩ := hv
  have hx := B.exec
  have hb := B.bytes
  have hr := B.returns
  have hts := atoms_spec (ws := wsX1_has) B.pre
  have hown : s.vm.findClass RX1 = some m.cls := findClass_of_methodNamed B.named
  have hlocks := B.notSynchronized
  subst hsz
  have hD := hD0.self (sz := s.heap.size)
  generalize hAe : va_A [(h1, .inr (1, [.ref k0, .ref k1, .ref k2, .ref k3, .ref k4, .ref k5, .ref k6, .ref k7, .int num]))] s.heap.size = A at hD ⊢
  have hA : ∀ q : Nat, s.heap.size ≤ q → A q := fun q h => by rw [← hAe]; exact Or.inr h
  have hS : va_S A s.heap s.heap [] := va_S.rf
  have hl := lv_entry ([.ref h1, .int a]) (n := 2) (Nat.le_of_ble_eq_true rfl)
  rw [lg_entry_eq]
  generalize (lg_sl ([.ref h1, .int a]) ++ List.replicate (2 - (lg_sl ([.ref h1, .int a])).length) Slot.unset).toArray = ls at hl ⊢
  have hl : lv_has ls 2 [(0, .ref h1), (1, .int a)] := hl
  have hP0 := hP
  refine lv_iload_n hx hb dX1_has_0 rfl (lv_at hl 1 rfl) ?_
  refine lv_if_lt (tgt := 22) hx hb dX1_has_1 (by decide) (fun c_1 => ?_) (fun c_1 => ?_)
  · refine lv_iconst (v := 0) hx hb dX1_has_22 (by decide) ?_
    refine W.widen (k := 0) (n := 0) (Nat.le_of_ble_eq_true rfl) (Nat.le_of_ble_eq_true rfl) ?_
    exact fi_z () hx hb hr rfl hlocks hK (hP.sub [0] rfl) (hD.sub [0] (by decide) rfl) hS (pf_X1_has_1 num a c_1) dX1_has_23
  · refine lv_iload_n hx hb dX1_has_4 rfl (lv_at hl 1 rfl) ?_
    refine lv_aload_n hx hb dX1_has_5 rfl (lv_at hl 0 rfl) ?_
    refine va_get (D := D) (ci := 1) (v := .int num) (C := RX1) (T := TX1) (N := 9) hx hb hts iw_X1_has_1 hown hK hP 0 rfl rfl 8 (by decide) (hts _ wd_X1_has_1) (fun _ h9 => h9) rfl dX1_has_6 ?_
    refine lv_icmp_ge (tgt := 22) hx hb dX1_has_9 (by decide) (fun c_2 => ?_) (fun c_2 => ?_)
    · refine lv_iconst (v := 0) hx hb dX1_has_22 (by decide) ?_
      refine W.widen (k := 0) (n := 0) (Nat.le_of_ble_eq_true rfl) (Nat.le_of_ble_eq_true rfl) ?_
      exact fi_z () hx hb hr rfl hlocks hK (hP.sub [0] rfl) (hD.sub [0] (by decide) rfl) hS (pf_X1_has_2 num a c_1 c_2) dX1_has_23
    · refine lv_iload_n hx hb dX1_has_12 rfl (lv_at hl 1 rfl) ?_
      refine lv_bipush (v := 10) hx hb dX1_has_13 (by decide) ?_
      refine lv_icmp_ge (tgt := 22) hx hb dX1_has_15 (by decide) (fun c_3 => ?_) (fun c_3 => ?_)
      · refine lv_iconst (v := 0) hx hb dX1_has_22 (by decide) ?_
        refine W.widen (k := 0) (n := 0) (Nat.le_of_ble_eq_true rfl) (Nat.le_of_ble_eq_true rfl) ?_
        exact fi_z () hx hb hr rfl hlocks hK (hP.sub [0] rfl) (hD.sub [0] (by decide) rfl) hS (pf_X1_has_3 num a c_1 c_2 c_3) dX1_has_23
      · refine lv_iconst (v := 1) hx hb dX1_has_18 (by decide) ?_
        refine lv_goto (tgt := 23) hx hb dX1_has_19 (by decide) ?_
        refine W.widen (k := 0) (n := 0) (Nat.le_of_ble_eq_true rfl) (Nat.le_of_ble_eq_true rfl) ?_
        exact fi_z () hx hb hr rfl hlocks hK (hP.sub [0] rfl) (hD.sub [0] (by decide) rfl) hS (pf_X1_has_4 num a c_1 c_2 c_3) dX1_has_23

theorem iw_X1_add_1 : ∀ w ∈ wsX10, w ∈ wsX1_add := fun w h => (List.mem_cons_of_mem _ (List.mem_append_right _ h))
theorem wd_X1_add_1 : (.fieldLink RX1 38 "PourPlan$Pieces" "number" "I" : Cond) ∈ wsX1_add := List.mem_of_getElem? (i := 1) rfl
theorem wd_X1_add_2 : (.fieldLink RX1 9 "PourPlan$Pieces" "kinds" "[I" : Cond) ∈ wsX1_add := List.mem_of_getElem? (i := 2) rfl
theorem wd_X1_add_3 : (.fieldLink RX1 15 "PourPlan$Pieces" "floors" "[I" : Cond) ∈ wsX1_add := List.mem_of_getElem? (i := 3) rfl
theorem wd_X1_add_4 : (.fieldLink RX1 18 "PourPlan$Pieces" "volumes" "[I" : Cond) ∈ wsX1_add := List.mem_of_getElem? (i := 4) rfl
theorem wd_X1_add_5 : (.fieldLink RX1 21 "PourPlan$Pieces" "sizes" "[I" : Cond) ∈ wsX1_add := List.mem_of_getElem? (i := 5) rfl
theorem wd_X1_add_6 : (.fieldLink RX1 24 "PourPlan$Pieces" "faces" "[I" : Cond) ∈ wsX1_add := List.mem_of_getElem? (i := 6) rfl
set_option maxHeartbeats 1000000 in
theorem pf_X1_add_1 (num : Int32) (hn0 : 0 ≤ num) (c_1 : num < 10) : vp_in num 10 := by
  exact vi_in (M := 10) rfl (by grind) (by grind)
set_option maxHeartbeats 1000000 in
theorem pf_X1_add_2 (num : Int32) (hn0 : 0 ≤ num) (c_1 : num < 10) : vp_in num 10 := by
  exact vi_in (M := 10) rfl (by grind) (by grind)
set_option maxHeartbeats 1000000 in
theorem pf_X1_add_3 (num : Int32) (hn0 : 0 ≤ num) (c_1 : num < 10) : vp_in num 10 := by
  exact vi_in (M := 10) rfl (by grind) (by grind)
set_option maxHeartbeats 1000000 in
theorem pf_X1_add_4 (num : Int32) (hn0 : 0 ≤ num) (c_1 : num < 10) : vp_in num 10 := by
  exact vi_in (M := 10) rfl (by grind) (by grind)
set_option maxHeartbeats 1000000 in
theorem pf_X1_add_5 (num : Int32) (hn0 : 0 ≤ num) (c_1 : num < 10) : vp_in num 10 := by
  exact vi_in (M := 10) rfl (by grind) (by grind)
set_option maxHeartbeats 1000000 in
theorem pf_X1_add_6 (num : Int32) (v_2 : Int32) (hn0 : 0 ≤ num) (c_1 : num < 10) (ev_2 : v_2 = num + 1) : num = (if 10 ≤ num then -4 else num) := by
  grind
set_option maxHeartbeats 1000000 in
theorem pf_X1_add_7 (num : Int32) (v_2 : Int32) (hn0 : 0 ≤ num) (c_1 : num < 10) (ev_2 : v_2 = num + 1) : v_2 = (if 10 ≤ num then num else num + 1) := by
  grind
set_option maxHeartbeats 1000000 in
theorem pf_X1_add_8 (num : Int32) (p0 : Nat → Int32) (xk : Int32) (v_2 : Int32) (hn0 : 0 ≤ num) (c_1 : num < 10) (ev_2 : v_2 = num + 1) : (upd p0 num.toNatClampNeg xk) = (if 10 ≤ num then p0 else upd p0 num.toNatClampNeg xk) := by
  grind
set_option maxHeartbeats 1000000 in
theorem pf_X1_add_9 (num : Int32) (p1 : Nat → Int32) (xf : Int32) (v_2 : Int32) (hn0 : 0 ≤ num) (c_1 : num < 10) (ev_2 : v_2 = num + 1) : (upd p1 num.toNatClampNeg xf) = (if 10 ≤ num then p1 else upd p1 num.toNatClampNeg xf) := by
  grind
set_option maxHeartbeats 1000000 in
theorem pf_X1_add_10 (num : Int32) (p2 : Nat → Int32) (xv : Int32) (v_2 : Int32) (hn0 : 0 ≤ num) (c_1 : num < 10) (ev_2 : v_2 = num + 1) : (upd p2 num.toNatClampNeg xv) = (if 10 ≤ num then p2 else upd p2 num.toNatClampNeg xv) := by
  grind
set_option maxHeartbeats 1000000 in
theorem pf_X1_add_11 (num : Int32) (p3 : Nat → Int32) (xs : Int32) (v_2 : Int32) (hn0 : 0 ≤ num) (c_1 : num < 10) (ev_2 : v_2 = num + 1) : (upd p3 num.toNatClampNeg xs) = (if 10 ≤ num then p3 else upd p3 num.toNatClampNeg xs) := by
  grind
set_option maxHeartbeats 1000000 in
theorem pf_X1_add_12 (num : Int32) (p4 : Nat → Int32) (xn : Int32) (v_2 : Int32) (hn0 : 0 ≤ num) (c_1 : num < 10) (ev_2 : v_2 = num + 1) : (upd p4 num.toNatClampNeg xn) = (if 10 ≤ num then p4 else upd p4 num.toNatClampNeg xn) := by
  grind
set_option maxHeartbeats 1000000 in
theorem pf_X1_add_13 (num : Int32) (hn0 : 0 ≤ num) (c_1 : ¬ num < 10) : (-4 : Int32) = (if 10 ≤ num then -4 else num) := by
  grind
set_option maxHeartbeats 1000000 in
theorem pf_X1_add_14 (num : Int32) (hn0 : 0 ≤ num) (c_1 : ¬ num < 10) : num = (if 10 ≤ num then num else num + 1) := by
  grind
set_option maxHeartbeats 1000000 in
theorem pf_X1_add_15 (num : Int32) (p0 : Nat → Int32) (xk : Int32) (hn0 : 0 ≤ num) (c_1 : ¬ num < 10) : p0 = (if 10 ≤ num then p0 else upd p0 num.toNatClampNeg xk) := by
  grind
set_option maxHeartbeats 1000000 in
theorem pf_X1_add_16 (num : Int32) (p1 : Nat → Int32) (xf : Int32) (hn0 : 0 ≤ num) (c_1 : ¬ num < 10) : p1 = (if 10 ≤ num then p1 else upd p1 num.toNatClampNeg xf) := by
  grind
set_option maxHeartbeats 1000000 in
theorem pf_X1_add_17 (num : Int32) (p2 : Nat → Int32) (xv : Int32) (hn0 : 0 ≤ num) (c_1 : ¬ num < 10) : p2 = (if 10 ≤ num then p2 else upd p2 num.toNatClampNeg xv) := by
  grind
set_option maxHeartbeats 1000000 in
theorem pf_X1_add_18 (num : Int32) (p3 : Nat → Int32) (xs : Int32) (hn0 : 0 ≤ num) (c_1 : ¬ num < 10) : p3 = (if 10 ≤ num then p3 else upd p3 num.toNatClampNeg xs) := by
  grind
set_option maxHeartbeats 1000000 in
theorem pf_X1_add_19 (num : Int32) (p4 : Nat → Int32) (xn : Int32) (hn0 : 0 ≤ num) (c_1 : ¬ num < 10) : p4 = (if 10 ≤ num then p4 else upd p4 num.toNatClampNeg xn) := by
  grind
set_option maxHeartbeats 4000000 in
set_option maxRecDepth 100000 in
theorem c_X1_add (l : Launch) (D : va_G) (cI cQ : ClassId) (sz : Nat) (h1 : Nat) (k0 : Nat) (k1 : Nat) (k2 : Nat) (k3 : Nat) (k4 : Nat) (k5 : Nat) (k6 : Nat) (k7 : Nat) (num : Int32) (p0 : Nat → Int32) (p1 : Nat → Int32) (p2 : Nat → Int32) (p3 : Nat → Int32) (p4 : Nat → Int32) (xk : Int32) (xf : Int32) (xv : Int32) (xs : Int32) (xn : Int32) (hn0 : 0 ≤ num) : CtI l yX1_add wsX1_add 0 0 0 0 [.ref h1, .int xk, .int xf, .int xv, .int xs, .int xn] D [(cI, .int), (cQ, .array .int)] [(h1, .inr (1, [.ref k0, .ref k1, .ref k2, .ref k3, .ref k4, .ref k5, .ref k6, .ref k7, .int num])), (k0, .inl (cI, 10, .inl p0)), (k1, .inl (cI, 10, .inl p1)), (k2, .inl (cI, 10, .inl p2)), (k3, .inl (cI, 10, .inl p3)), (k4, .inl (cI, 10, .inl p4))] sz (fun (r : Int32) (u : Int32 × (Nat → Int32) × (Nat → Int32) × (Nat → Int32) × (Nat → Int32) × (Nat → Int32)) => r = (if 10 ≤ num then -4 else num) ∧ u.1 = (if 10 ≤ num then num else num + 1) ∧ u.2.1 = (if 10 ≤ num then p0 else upd p0 num.toNatClampNeg xk) ∧ u.2.2.1 = (if 10 ≤ num then p1 else upd p1 num.toNatClampNeg xf) ∧ u.2.2.2.1 = (if 10 ≤ num then p2 else upd p2 num.toNatClampNeg xv) ∧ u.2.2.2.2.1 = (if 10 ≤ num then p3 else upd p3 num.toNatClampNeg xs) ∧ u.2.2.2.2.2 = (if 10 ≤ num then p4 else upd p4 num.toNatClampNeg xn)) (fun (u : Int32 × (Nat → Int32) × (Nat → Int32) × (Nat → Int32) × (Nat → Int32) × (Nat → Int32)) => [(h1, .inr (1, [.ref k0, .ref k1, .ref k2, .ref k3, .ref k4, .ref k5, .ref k6, .ref k7, .int u.1])), (k0, .inl (cI, 10, .inl u.2.1)), (k1, .inl (cI, 10, .inl u.2.2.1)), (k2, .inl (cI, 10, .inl u.2.2.2.1)), (k3, .inl (cI, 10, .inl u.2.2.2.2.1)), (k4, .inl (cI, 10, .inl u.2.2.2.2.2))]) := by
  refine Met.ofW (cc := cX1_add) (maxL := 7) (ret := (some .int)) (by decide) rfl ?_
  intro p e s m args below meth c s₁ B hml hv
  obtain ⟨rfl, hsz, hP, hK, hD0, hN⟩ := hv
  have hx := B.exec
  have hb := B.bytes
  have hr := B.returns
  have hts := atoms_spec (ws := wsX1_add) B.pre
  have hown : s.vm.findClass RX1 = some m.cls := findClass_of_methodNamed B.named
  have hlocks := B.notSynchronized
  subst hsz
  have hD := hD0.self (sz := s.heap.size)
  generalize hAe : va_A [(h1, .inr (1, [.ref k0, .ref k1, .ref k2, .ref k3, .ref k4, .ref k5, .ref k6, .ref k7, .int num])), (k0, .inl (cI, 10, .inl p0)), (k1, .inl (cI, 10, .inl p1)), (k2, .inl (cI, 10, .inl p2)), (k3, .inl (cI, 10, .inl p3)), (k4, .inl (cI, 10, .inl p4))] s.heap.size = A at hD ⊢
  have hA : ∀ q : Nat, s.heap.size ≤ q → A q := fun q h => by rw [← hAe]; exact Or.inr h
  have hS : va_S A s.heap s.heap [] := va_S.rf
  have hl := lv_entry ([.ref h1, .int xk, .int xf, .int xv, .int xs, .int xn]) (n := 7) (Nat.le_of_ble_eq_true rfl)
  rw [lg_entry_eq]
  generalize (lg_sl ([.ref h1, .int xk, .int xf, .int xv, .int xs, .int xn]) ++ List.replicate (7 - (lg_sl ([.ref h1, .int xk, .int xf, .int xv, .int xs, .int xn])).length) Slot.unset).toArray = ls at hl ⊢
  have hl : lv_has ls 7 [(0, .ref h1), (1, .int xk), (2, .int xf), (3, .int xv), (4, .int xs), (5, .int xn)] := hl
  have hP0 := hP
  refine lv_aload_n hx hb dX1_add_0 rfl (lv_at hl 0 rfl) ?_
  refine va_get (D := D) (ci := 1) (v := .int num) (C := RX1) (T := TX1) (N := 9) hx hb hts iw_X1_add_1 hown hK hP 0 rfl rfl 8 (by decide) (hts _ wd_X1_add_1) (fun _ h9 => h9) rfl dX1_add_1 ?_
  refine lv_istore (lv' := [(6, .int num), (0, .ref h1), (1, .int xk), (2, .int xf), (3, .int xv), (4, .int xs), (5, .int xn)]) hx hb dX1_add_4 hl (by decide) rfl (fun ls hl => ?_)
  refine lv_iload hx hb dX1_add_6 (lv_at hl 0 rfl) ?_
  refine lv_bipush (v := 10) hx hb dX1_add_8 (by decide) ?_
  refine lv_icmp_lt (tgt := 16) hx hb dX1_add_10 (by decide) (fun c_1 => ?_) (fun c_1 => ?_)
  · refine lv_aload_n hx hb dX1_add_16 rfl (lv_at hl 1 rfl) ?_
    refine va_get (D := D) (ci := 1) (v := .ref k0) (C := RX1) (T := TX1) (N := 9) hx hb hts iw_X1_add_1 hown hK hP 0 rfl rfl 0 (by decide) (hts _ wd_X1_add_2) (fun _ h9 => h9) rfl dX1_add_17 ?_
    refine lv_iload hx hb dX1_add_20 (lv_at hl 0 rfl) ?_
    refine lv_iload_n hx hb dX1_add_22 rfl (lv_at hl 2 rfl) ?_
    refine va_iast hx hb hK hP hD hS 1 0 rfl rfl (pf_X1_add_1 num hn0 c_1) dX1_add_23 (fun H locs hP hD hS => ?_)
    have hP : va_P D vwCl [(h1, .inr (1, [.ref k0, .ref k1, .ref k2, .ref k3, .ref k4, .ref k5, .ref k6, .ref k7, .int num])), (k0, .inl (cI, 10, .inl (upd p0 num.toNatClampNeg xk))), (k1, .inl (cI, 10, .inl p1)), (k2, .inl (cI, 10, .inl p2)), (k3, .inl (cI, 10, .inl p3)), (k4, .inl (cI, 10, .inl p4))] H := hP
    have hD : va_D A [(h1, .inr (1, [.ref k0, .ref k1, .ref k2, .ref k3, .ref k4, .ref k5, .ref k6, .ref k7, .int num])), (k0, .inl (cI, 10, .inl (upd p0 num.toNatClampNeg xk))), (k1, .inl (cI, 10, .inl p1)), (k2, .inl (cI, 10, .inl p2)), (k3, .inl (cI, 10, .inl p3)), (k4, .inl (cI, 10, .inl p4))] := hD
    refine lv_aload_n hx hb dX1_add_24 rfl (lv_at hl 1 rfl) ?_
    refine va_get (D := D) (ci := 1) (v := .ref k1) (C := RX1) (T := TX1) (N := 9) hx hb hts iw_X1_add_1 hown hK hP 0 rfl rfl 1 (by decide) (hts _ wd_X1_add_3) (fun _ h9 => h9) rfl dX1_add_25 ?_
    refine lv_iload hx hb dX1_add_28 (lv_at hl 0 rfl) ?_
    refine lv_iload_n hx hb dX1_add_30 rfl (lv_at hl 3 rfl) ?_
    refine va_iast hx hb hK hP hD hS 2 0 rfl rfl (pf_X1_add_2 num hn0 c_1) dX1_add_31 (fun H locs hP hD hS => ?_)
    have hP : va_P D vwCl [(h1, .inr (1, [.ref k0, .ref k1, .ref k2, .ref k3, .ref k4, .ref k5, .ref k6, .ref k7, .int num])), (k0, .inl (cI, 10, .inl (upd p0 num.toNatClampNeg xk))), (k1, .inl (cI, 10, .inl (upd p1 num.toNatClampNeg xf))), (k2, .inl (cI, 10, .inl p2)), (k3, .inl (cI, 10, .inl p3)), (k4, .inl (cI, 10, .inl p4))] H := hP
    have hD : va_D A [(h1, .inr (1, [.ref k0, .ref k1, .ref k2, .ref k3, .ref k4, .ref k5, .ref k6, .ref k7, .int num])), (k0, .inl (cI, 10, .inl (upd p0 num.toNatClampNeg xk))), (k1, .inl (cI, 10, .inl (upd p1 num.toNatClampNeg xf))), (k2, .inl (cI, 10, .inl p2)), (k3, .inl (cI, 10, .inl p3)), (k4, .inl (cI, 10, .inl p4))] := hD
    refine lv_aload_n hx hb dX1_add_32 rfl (lv_at hl 1 rfl) ?_
    refine va_get (D := D) (ci := 1) (v := .ref k2) (C := RX1) (T := TX1) (N := 9) hx hb hts iw_X1_add_1 hown hK hP 0 rfl rfl 2 (by decide) (hts _ wd_X1_add_4) (fun _ h9 => h9) rfl dX1_add_33 ?_
    refine lv_iload hx hb dX1_add_36 (lv_at hl 0 rfl) ?_
    refine lv_iload_n hx hb dX1_add_38 rfl (lv_at hl 4 rfl) ?_
    refine va_iast hx hb hK hP hD hS 3 0 rfl rfl (pf_X1_add_3 num hn0 c_1) dX1_add_39 (fun H locs hP hD hS => ?_)
    have hP : va_P D vwCl [(h1, .inr (1, [.ref k0, .ref k1, .ref k2, .ref k3, .ref k4, .ref k5, .ref k6, .ref k7, .int num])), (k0, .inl (cI, 10, .inl (upd p0 num.toNatClampNeg xk))), (k1, .inl (cI, 10, .inl (upd p1 num.toNatClampNeg xf))), (k2, .inl (cI, 10, .inl (upd p2 num.toNatClampNeg xv))), (k3, .inl (cI, 10, .inl p3)), (k4, .inl (cI, 10, .inl p4))] H := hP
    have hD : va_D A [(h1, .inr (1, [.ref k0, .ref k1, .ref k2, .ref k3, .ref k4, .ref k5, .ref k6, .ref k7, .int num])), (k0, .inl (cI, 10, .inl (upd p0 num.toNatClampNeg xk))), (k1, .inl (cI, 10, .inl (upd p1 num.toNatClampNeg xf))), (k2, .inl (cI, 10, .inl (upd p2 num.toNatClampNeg xv))), (k3, .inl (cI, 10, .inl p3)), (k4, .inl (cI, 10, .inl p4))] := hD
    refine lv_aload_n hx hb dX1_add_40 rfl (lv_at hl 1 rfl) ?_
    refine va_get (D := D) (ci := 1) (v := .ref k3) (C := RX1) (T := TX1) (N := 9) hx hb hts iw_X1_add_1 hown hK hP 0 rfl rfl 3 (by decide) (hts _ wd_X1_add_5) (fun _ h9 => h9) rfl dX1_add_41 ?_
    refine lv_iload hx hb dX1_add_44 (lv_at hl 0 rfl) ?_
    refine lv_iload hx hb dX1_add_46 (lv_at hl 5 rfl) ?_
    refine va_iast hx hb hK hP hD hS 4 0 rfl rfl (pf_X1_add_4 num hn0 c_1) dX1_add_48 (fun H locs hP hD hS => ?_)
    have hP : va_P D vwCl [(h1, .inr (1, [.ref k0, .ref k1, .ref k2, .ref k3, .ref k4, .ref k5, .ref k6, .ref k7, .int num])), (k0, .inl (cI, 10, .inl (upd p0 num.toNatClampNeg xk))), (k1, .inl (cI, 10, .inl (upd p1 num.toNatClampNeg xf))), (k2, .inl (cI, 10, .inl (upd p2 num.toNatClampNeg xv))), (k3, .inl (cI, 10, .inl (upd p3 num.toNatClampNeg xs))), (k4, .inl (cI, 10, .inl p4))] H := hP
    have hD : va_D A [(h1, .inr (1, [.ref k0, .ref k1, .ref k2, .ref k3, .ref k4, .ref k5, .ref k6, .ref k7, .int num])), (k0, .inl (cI, 10, .inl (upd p0 num.toNatClampNeg xk))), (k1, .inl (cI, 10, .inl (upd p1 num.toNatClampNeg xf))), (k2, .inl (cI, 10, .inl (upd p2 num.toNatClampNeg xv))), (k3, .inl (cI, 10, .inl (upd p3 num.toNatClampNeg xs))), (k4, .inl (cI, 10, .inl p4))] := hD
    refine lv_aload_n hx hb dX1_add_49 rfl (lv_at hl 1 rfl) ?_
    refine va_get (D := D) (ci := 1) (v := .ref k4) (C := RX1) (T := TX1) (N := 9) hx hb hts iw_X1_add_1 hown hK hP 0 rfl rfl 4 (by decide) (hts _ wd_X1_add_6) (fun _ h9 => h9) rfl dX1_add_50 ?_
    refine lv_iload hx hb dX1_add_53 (lv_at hl 0 rfl) ?_
    refine lv_iload hx hb dX1_add_55 (lv_at hl 6 rfl) ?_
    refine va_iast hx hb hK hP hD hS 5 0 rfl rfl (pf_X1_add_5 num hn0 c_1) dX1_add_57 (fun H locs hP hD hS => ?_)
    have hP : va_P D vwCl [(h1, .inr (1, [.ref k0, .ref k1, .ref k2, .ref k3, .ref k4, .ref k5, .ref k6, .ref k7, .int num])), (k0, .inl (cI, 10, .inl (upd p0 num.toNatClampNeg xk))), (k1, .inl (cI, 10, .inl (upd p1 num.toNatClampNeg xf))), (k2, .inl (cI, 10, .inl (upd p2 num.toNatClampNeg xv))), (k3, .inl (cI, 10, .inl (upd p3 num.toNatClampNeg xs))), (k4, .inl (cI, 10, .inl (upd p4 num.toNatClampNeg xn)))] H := hP
    have hD : va_D A [(h1, .inr (1, [.ref k0, .ref k1, .ref k2, .ref k3, .ref k4, .ref k5, .ref k6, .ref k7, .int num])), (k0, .inl (cI, 10, .inl (upd p0 num.toNatClampNeg xk))), (k1, .inl (cI, 10, .inl (upd p1 num.toNatClampNeg xf))), (k2, .inl (cI, 10, .inl (upd p2 num.toNatClampNeg xv))), (k3, .inl (cI, 10, .inl (upd p3 num.toNatClampNeg xs))), (k4, .inl (cI, 10, .inl (upd p4 num.toNatClampNeg xn)))] := hD
    refine lv_aload_n hx hb dX1_add_58 rfl (lv_at hl 1 rfl) ?_
    refine lv_dup hx hb dX1_add_59 rfl ?_
    refine va_get (D := D) (ci := 1) (v := .int num) (C := RX1) (T := TX1) (N := 9) hx hb hts iw_X1_add_1 hown hK hP 0 rfl rfl 8 (by decide) (hts _ wd_X1_add_1) (fun _ h9 => h9) rfl dX1_add_60 ?_
    refine lv_iconst (v := 1) hx hb dX1_add_63 (by decide) ?_
    refine lv_iadd hx hb dX1_add_64 ?_
    refine lv_topi (fun v_2 ev_2 => ?_)
    refine va_put (D := D) (ci := 1) (v := .int v_2) (ty := .int) (C := RX1) (T := TX1) (N := 9) hx hb hts iw_X1_add_1 tyX1 tyX1_ok nmX1 hown hK hP hD hS 0 rfl rfl 8 (by decide) (hts _ wd_X1_add_1) (fun _ h9 => h9) rfl (by decide +kernel) rfl rfl (Nat.le_of_ble_eq_true rfl) dX1_add_65 (fun H locs hP hD hS => ?_)
    have hP : va_P D vwCl [(h1, .inr (1, [.ref k0, .ref k1, .ref k2, .ref k3, .ref k4, .ref k5, .ref k6, .ref k7, .int v_2])), (k0, .inl (cI, 10, .inl (upd p0 num.toNatClampNeg xk))), (k1, .inl (cI, 10, .inl (upd p1 num.toNatClampNeg xf))), (k2, .inl (cI, 10, .inl (upd p2 num.toNatClampNeg xv))), (k3, .inl (cI, 10, .inl (upd p3 num.toNatClampNeg xs))), (k4, .inl (cI, 10, .inl (upd p4 num.toNatClampNeg xn)))] H := hP
    have hD : va_D A [(h1, .inr (1, [.ref k0, .ref k1, .ref k2, .ref k3, .ref k4, .ref k5, .ref k6, .ref k7, .int v_2])), (k0, .inl (cI, 10, .inl (upd p0 num.toNatClampNeg xk))), (k1, .inl (cI, 10, .inl (upd p1 num.toNatClampNeg xf))), (k2, .inl (cI, 10, .inl (upd p2 num.toNatClampNeg xv))), (k3, .inl (cI, 10, .inl (upd p3 num.toNatClampNeg xs))), (k4, .inl (cI, 10, .inl (upd p4 num.toNatClampNeg xn)))] := hD
    refine lv_iload hx hb dX1_add_68 (lv_at hl 0 rfl) ?_
    refine W.widen (k := 0) (n := 0) (Nat.le_of_ble_eq_true rfl) (Nat.le_of_ble_eq_true rfl) ?_
    exact fi_i (v_2, upd p0 num.toNatClampNeg xk, upd p1 num.toNatClampNeg xf, upd p2 num.toNatClampNeg xv, upd p3 num.toNatClampNeg xs, upd p4 num.toNatClampNeg xn) hx hb hr hlocks hK (hP.sub [0, 1, 2, 3, 4, 5] rfl) (hD.sub [0, 1, 2, 3, 4, 5] (by decide) rfl) hS ⟨(pf_X1_add_6 num v_2 hn0 c_1 ev_2), (pf_X1_add_7 num v_2 hn0 c_1 ev_2), (pf_X1_add_8 num p0 xk v_2 hn0 c_1 ev_2), (pf_X1_add_9 num p1 xf v_2 hn0 c_1 ev_2), (pf_X1_add_10 num p2 xv v_2 hn0 c_1 ev_2), (pf_X1_add_11 num p3 xs v_2 hn0 c_1 ev_2), (pf_X1_add_12 num p4 xn v_2 hn0 c_1 ev_2)⟩ dX1_add_70
  · refine lv_bipush (v := (-4)) hx hb dX1_add_13 (by decide) ?_
    refine W.widen (k := 0) (n := 0) (Nat.le_of_ble_eq_true rfl) (Nat.le_of_ble_eq_true rfl) ?_
    exact fi_i (num, p0, p1, p2, p3, p4) hx hb hr hlocks hK (hP.sub [0, 1, 2, 3, 4, 5] rfl) (hD.sub [0, 1, 2, 3, 4, 5] (by decide) rfl) hS ⟨(pf_X1_add_13 num hn0 c_1), (pf_X1_add_14 num hn0 c_1), (pf_X1_add_15 num p0 xk hn0 c_1), (pf_X1_add_16 num p1 xf hn0 c_1), (pf_X1_add_17 num p2 xv hn0 c_1), (pf_X1_add_18 num p3 xs hn0 c_1), (pf_X1_add_19 num p4 xn hn0 c_1)⟩ dX1_add_15

theorem iw_X1_standsOn_1 : ∀ w ∈ wsX10, w ∈ wsX1_standsOn := fun w h => (List.mem_cons_of_mem _ (List.mem_append_right _ h))
theorem wd_X1_standsOn_1 : (.fieldLink RX1 27 "PourPlan$Pieces" "days" "[I" : Cond) ∈ wsX1_standsOn := List.mem_of_getElem? (i := 1) rfl
set_option maxHeartbeats 1000000 in
theorem pf_X1_standsOn_1 (a : Int32) (ha : vp_in a 10) : vp_in a 10 := by
  exact ha
set_option maxHeartbeats 1000000 in
theorem pf_X1_standsOn_2 (p5 : Nat → Int32) (a : Int32) (day : Int32) (v_1 : Int32) (ha : vp_in a 10) (ev_1 : v_1 = p5 a.toNatClampNeg) (c_2 : v_1 = (-1)) : (0 : Int32) = bSt (p5 a.toNatClampNeg) day := by
  grind [bSt]
set_option maxHeartbeats 1000000 in
theorem pf_X1_standsOn_3 (p5 : Nat → Int32) (a : Int32) (v_1 : Int32) (ha : vp_in a 10) (ev_1 : v_1 = p5 a.toNatClampNeg) (c_2 : ¬ v_1 = (-1)) : vp_in a 10 := by
  exact ha
set_option maxHeartbeats 1000000 in
theorem pf_X1_standsOn_4 (p5 : Nat → Int32) (a : Int32) (day : Int32) (v_1 : Int32) (v_3 : Int32) (ha : vp_in a 10) (ev_1 : v_1 = p5 a.toNatClampNeg) (c_2 : ¬ v_1 = (-1)) (ev_3 : v_3 = p5 a.toNatClampNeg) (c_4 : day < v_3) : (0 : Int32) = bSt (p5 a.toNatClampNeg) day := by
  grind [bSt]
set_option maxHeartbeats 1000000 in
theorem pf_X1_standsOn_5 (p5 : Nat → Int32) (a : Int32) (day : Int32) (v_1 : Int32) (v_3 : Int32) (ha : vp_in a 10) (ev_1 : v_1 = p5 a.toNatClampNeg) (c_2 : ¬ v_1 = (-1)) (ev_3 : v_3 = p5 a.toNatClampNeg) (c_4 : ¬ day < v_3) : (1 : Int32) = bSt (p5 a.toNatClampNeg) day := by
  grind [bSt]
set_option maxHeartbeats 4000000 in
set_option maxRecDepth 100000 in
theorem c_X1_standsOn (l : Launch) (D : va_G) (cI cQ : ClassId) (sz : Nat) (h1 : Nat) (k5 : Nat) (k0 : Nat) (k1 : Nat) (k2 : Nat) (k3 : Nat) (k4 : Nat) (k6 : Nat) (k7 : Nat) (num : Int32) (p5 : Nat → Int32) (a : Int32) (day : Int32) (ha : vp_in a 10) : CtI l yX1_standsOn wsX1_standsOn 0 0 0 0 [.ref h1, .int a, .int day] D [(cI, .int), (cQ, .array .int)] [(h1, .inr (1, [.ref k0, .ref k1, .ref k2, .ref k3, .ref k4, .ref k5, .ref k6, .ref k7, .int num])), (k5, .inl (cI, 10, .inl p5))] sz (fun (r : Int32) (u : Unit) => r = bSt (p5 a.toNatClampNeg) day) (fun (u : Unit) => [(h1, .inr (1, [.ref k0, .ref k1, .ref k2, .ref k3, .ref k4, .ref k5, .ref k6, .ref k7, .int num])), (k5, .inl (cI, 10, .inl p5))]) := by
  refine Met.ofW (cc := cX1_standsOn) (maxL := 3) (ret := (some .boolean)) (by decide) rfl ?_
  intro p e s m args below meth c s₁ B hml hv
  obtain ⟨rfl, hsz, hP, hK, hD0, hN⟩ := hv
  have hx := B.exec
  have hb := B.bytes
  have hr := B.returns
  have hts := atoms_spec (ws := wsX1_standsOn) B.pre
  have hown : s.vm.findClass RX1 = some m.cls := findClass_of_methodNamed B.named
  have hlocks := B.notSynchronized
  subst hsz
  have hD := hD0.self (sz := s.heap.size)
  generalize hAe : va_A [(h1, .inr (1, [.ref k0, .ref k1, .ref k2, .ref k3, .ref k4, .ref k5, .ref k6, .ref k7, .int num])), (k5, .inl (cI, 10, .inl p5))] s.heap.size = A at hD ⊢
  have hA : ∀ q : Nat, s.heap.size ≤ q → A q := fun q h => by rw [← hAe]; exact Or.inr h
  have hS : va_S A s.heap s.heap [] := va_S.rf
  have hl := lv_entry ([.ref h1, .int a, .int day]) (n := 3) (Nat.le_of_ble_eq_true rfl)
  rw [lg_entry_eq]
  generalize (lg_sl ([.ref h1, .int a, .int day]) ++ List.replicate (3 - (lg_sl ([.ref h1, .int a, .int day])).length) Slot.unset).toArray = ls at hl ⊢
  have hl : lv_has ls 3 [(0, .ref h1), (1, .int a), (2, .int day)] := hl
  have hP0 := hP
  refine lv_aload_n hx hb dX1_standsOn_0 rfl (lv_at hl 0 rfl) ?_
  refine va_get (D := D) (ci := 1) (v := .ref k5) (C := RX1) (T := TX1) (N := 9) hx hb hts iw_X1_standsOn_1 hown hK hP 0 rfl rfl 5 (by decide) (hts _ wd_X1_standsOn_1) (fun _ h9 => h9) rfl dX1_standsOn_1 ?_
  refine lv_iload_n hx hb dX1_standsOn_4 rfl (lv_at hl 1 rfl) ?_
  refine va_iald hx hb hK hP 1 0 rfl rfl (pf_X1_standsOn_1 a ha) dX1_standsOn_5 ?_
  refine lv_topi (fun v_1 ev_1 => ?_)
  refine lv_iconst (v := (-1)) hx hb dX1_standsOn_6 (by decide) ?_
  refine lv_icmp_eq (tgt := 24) hx hb dX1_standsOn_7 (by decide) (fun c_2 => ?_) (fun c_2 => ?_)
  · refine lv_iconst (v := 0) hx hb dX1_standsOn_24 (by decide) ?_
    refine W.widen (k := 0) (n := 0) (Nat.le_of_ble_eq_true rfl) (Nat.le_of_ble_eq_true rfl) ?_
    exact fi_z () hx hb hr rfl hlocks hK (hP.sub [0, 1] rfl) (hD.sub [0, 1] (by decide) rfl) hS (pf_X1_standsOn_2 p5 a day v_1 ha ev_1 c_2) dX1_standsOn_25
  · refine lv_aload_n hx hb dX1_standsOn_10 rfl (lv_at hl 0 rfl) ?_
    refine va_get (D := D) (ci := 1) (v := .ref k5) (C := RX1) (T := TX1) (N := 9) hx hb hts iw_X1_standsOn_1 hown hK hP 0 rfl rfl 5 (by decide) (hts _ wd_X1_standsOn_1) (fun _ h9 => h9) rfl dX1_standsOn_11 ?_
    refine lv_iload_n hx hb dX1_standsOn_14 rfl (lv_at hl 1 rfl) ?_
    refine va_iald hx hb hK hP 1 0 rfl rfl (pf_X1_standsOn_3 p5 a v_1 ha ev_1 c_2) dX1_standsOn_15 ?_
    refine lv_topi (fun v_3 ev_3 => ?_)
    refine lv_iload_n hx hb dX1_standsOn_16 rfl (lv_at hl 2 rfl) ?_
    refine lv_icmp_gt (tgt := 24) hx hb dX1_standsOn_17 (by decide) (fun c_4 => ?_) (fun c_4 => ?_)
    · refine lv_iconst (v := 0) hx hb dX1_standsOn_24 (by decide) ?_
      refine W.widen (k := 0) (n := 0) (Nat.le_of_ble_eq_true rfl) (Nat.le_of_ble_eq_true rfl) ?_
      exact fi_z () hx hb hr rfl hlocks hK (hP.sub [0, 1] rfl) (hD.sub [0, 1] (by decide) rfl) hS (pf_X1_standsOn_4 p5 a day v_1 v_3 ha ev_1 c_2 ev_3 c_4) dX1_standsOn_25
    · refine lv_iconst (v := 1) hx hb dX1_standsOn_20 (by decide) ?_
      refine lv_goto (tgt := 25) hx hb dX1_standsOn_21 (by decide) ?_
      refine W.widen (k := 0) (n := 0) (Nat.le_of_ble_eq_true rfl) (Nat.le_of_ble_eq_true rfl) ?_
      exact fi_z () hx hb hr rfl hlocks hK (hP.sub [0, 1] rfl) (hD.sub [0, 1] (by decide) rfl) hS (pf_X1_standsOn_5 p5 a day v_1 v_3 ha ev_1 c_2 ev_3 c_4) dX1_standsOn_25

theorem iw_X1_carries_1 : ∀ w ∈ wsX10, w ∈ wsX1_carries := fun w h => (List.mem_cons_of_mem _ (List.mem_append_right _ h))
theorem wd_X1_carries_1 : (.fieldLink RX1 9 "PourPlan$Pieces" "kinds" "[I" : Cond) ∈ wsX1_carries := List.mem_of_getElem? (i := 1) rfl
theorem wd_X1_carries_2 : (.fieldLink RX1 15 "PourPlan$Pieces" "floors" "[I" : Cond) ∈ wsX1_carries := List.mem_of_getElem? (i := 2) rfl
set_option maxHeartbeats 1000000 in
theorem pf_X1_carries_1 (a : Int32) (b1 : Int32) (ha : vp_in a 10) (hb1 : vp_in b1 10) : vp_in a 10 := by
  exact ha
set_option maxHeartbeats 1000000 in
theorem pf_X1_carries_2 (p0 : Nat → Int32) (a : Int32) (b1 : Int32) (v_1 : Int32) (ha : vp_in a 10) (hb1 : vp_in b1 10) (ev_1 : v_1 = p0 a.toNatClampNeg) (c_2 : v_1 = 1) : vp_in a 10 := by
  exact ha
set_option maxHeartbeats 1000000 in
theorem pf_X1_carries_3 (p0 : Nat → Int32) (p1 : Nat → Int32) (a : Int32) (b1 : Int32) (v_1 : Int32) (v_3 : Int32) (ha : vp_in a 10) (hb1 : vp_in b1 10) (ev_1 : v_1 = p0 a.toNatClampNeg) (c_2 : v_1 = 1) (ev_3 : v_3 = p1 a.toNatClampNeg) : vp_in b1 10 := by
  exact hb1
set_option maxHeartbeats 1000000 in
theorem pf_X1_carries_4 (p0 : Nat → Int32) (p1 : Nat → Int32) (a : Int32) (b1 : Int32) (v_1 : Int32) (v_3 : Int32) (v_4 : Int32) (ha : vp_in a 10) (hb1 : vp_in b1 10) (ev_1 : v_1 = p0 a.toNatClampNeg) (c_2 : v_1 = 1) (ev_3 : v_3 = p1 a.toNatClampNeg) (ev_4 : v_4 = p1 b1.toNatClampNeg) (c_5 : ¬ v_3 = v_4) : ((0 : Int32) = 0 ↔ ¬ carB p0 p1 a.toNatClampNeg b1.toNatClampNeg = true) := by
  rw [carB_iff]
  clear ha hb1
  grind
set_option maxHeartbeats 1000000 in
theorem pf_X1_carries_5 (p0 : Nat → Int32) (p1 : Nat → Int32) (a : Int32) (b1 : Int32) (v_1 : Int32) (v_3 : Int32) (v_4 : Int32) (ha : vp_in a 10) (hb1 : vp_in b1 10) (ev_1 : v_1 = p0 a.toNatClampNeg) (c_2 : v_1 = 1) (ev_3 : v_3 = p1 a.toNatClampNeg) (ev_4 : v_4 = p1 b1.toNatClampNeg) (c_5 : v_3 = v_4) : ((1 : Int32) = 0 ↔ ¬ carB p0 p1 a.toNatClampNeg b1.toNatClampNeg = true) := by
  rw [carB_iff]
  clear ha hb1
  grind
set_option maxHeartbeats 1000000 in
theorem pf_X1_carries_6 (p0 : Nat → Int32) (a : Int32) (b1 : Int32) (v_1 : Int32) (ha : vp_in a 10) (hb1 : vp_in b1 10) (ev_1 : v_1 = p0 a.toNatClampNeg) (c_2 : ¬ v_1 = 1) : vp_in a 10 := by
  exact ha
set_option maxHeartbeats 1000000 in
theorem pf_X1_carries_7 (p0 : Nat → Int32) (a : Int32) (b1 : Int32) (v_1 : Int32) (v_6 : Int32) (ha : vp_in a 10) (hb1 : vp_in b1 10) (ev_1 : v_1 = p0 a.toNatClampNeg) (c_2 : ¬ v_1 = 1) (ev_6 : v_6 = p0 a.toNatClampNeg) (c_7 : ¬ v_6 = 2) : vp_in a 10 := by
  exact ha
set_option maxHeartbeats 1000000 in
theorem pf_X1_carries_8 (p0 : Nat → Int32) (p1 : Nat → Int32) (a : Int32) (b1 : Int32) (v_1 : Int32) (v_6 : Int32) (v_8 : Int32) (ha : vp_in a 10) (hb1 : vp_in b1 10) (ev_1 : v_1 = p0 a.toNatClampNeg) (c_2 : ¬ v_1 = 1) (ev_6 : v_6 = p0 a.toNatClampNeg) (c_7 : ¬ v_6 = 2) (ev_8 : v_8 = p0 a.toNatClampNeg) (c_9 : ¬ v_8 = 0) : ((0 : Int32) = 0 ↔ ¬ carB p0 p1 a.toNatClampNeg b1.toNatClampNeg = true) := by
  rw [carB_iff]
  clear ha hb1
  grind
set_option maxHeartbeats 1000000 in
theorem pf_X1_carries_9 (p0 : Nat → Int32) (a : Int32) (b1 : Int32) (v_1 : Int32) (v_6 : Int32) (v_8 : Int32) (ha : vp_in a 10) (hb1 : vp_in b1 10) (ev_1 : v_1 = p0 a.toNatClampNeg) (c_2 : ¬ v_1 = 1) (ev_6 : v_6 = p0 a.toNatClampNeg) (c_7 : ¬ v_6 = 2) (ev_8 : v_8 = p0 a.toNatClampNeg) (c_9 : v_8 = 0) : vp_in a 10 := by
  exact ha
set_option maxHeartbeats 1000000 in
theorem pf_X1_carries_10 (p0 : Nat → Int32) (p1 : Nat → Int32) (a : Int32) (b1 : Int32) (v_1 : Int32) (v_6 : Int32) (v_8 : Int32) (v_10 : Int32) (ha : vp_in a 10) (hb1 : vp_in b1 10) (ev_1 : v_1 = p0 a.toNatClampNeg) (c_2 : ¬ v_1 = 1) (ev_6 : v_6 = p0 a.toNatClampNeg) (c_7 : ¬ v_6 = 2) (ev_8 : v_8 = p0 a.toNatClampNeg) (c_9 : v_8 = 0) (ev_10 : v_10 = p1 a.toNatClampNeg) : vp_in b1 10 := by
  exact hb1
set_option maxHeartbeats 1000000 in
theorem pf_X1_carries_11 (p0 : Nat → Int32) (p1 : Nat → Int32) (a : Int32) (b1 : Int32) (v_1 : Int32) (v_6 : Int32) (v_8 : Int32) (v_10 : Int32) (v_11 : Int32) (v_12 : Int32) (ha : vp_in a 10) (hb1 : vp_in b1 10) (ev_1 : v_1 = p0 a.toNatClampNeg) (c_2 : ¬ v_1 = 1) (ev_6 : v_6 = p0 a.toNatClampNeg) (c_7 : ¬ v_6 = 2) (ev_8 : v_8 = p0 a.toNatClampNeg) (c_9 : v_8 = 0) (ev_10 : v_10 = p1 a.toNatClampNeg) (ev_11 : v_11 = p1 b1.toNatClampNeg) (ev_12 : v_12 = v_11 - 1) (c_13 : ¬ v_10 = v_12) : ((0 : Int32) = 0 ↔ ¬ carB p0 p1 a.toNatClampNeg b1.toNatClampNeg = true) := by
  rw [carB_iff]
  clear ha hb1
  grind
set_option maxHeartbeats 1000000 in
theorem pf_X1_carries_12 (p0 : Nat → Int32) (p1 : Nat → Int32) (a : Int32) (b1 : Int32) (v_1 : Int32) (v_6 : Int32) (v_8 : Int32) (v_10 : Int32) (v_11 : Int32) (v_12 : Int32) (ha : vp_in a 10) (hb1 : vp_in b1 10) (ev_1 : v_1 = p0 a.toNatClampNeg) (c_2 : ¬ v_1 = 1) (ev_6 : v_6 = p0 a.toNatClampNeg) (c_7 : ¬ v_6 = 2) (ev_8 : v_8 = p0 a.toNatClampNeg) (c_9 : v_8 = 0) (ev_10 : v_10 = p1 a.toNatClampNeg) (ev_11 : v_11 = p1 b1.toNatClampNeg) (ev_12 : v_12 = v_11 - 1) (c_13 : v_10 = v_12) : ((1 : Int32) = 0 ↔ ¬ carB p0 p1 a.toNatClampNeg b1.toNatClampNeg = true) := by
  rw [carB_iff]
  clear ha hb1
  grind
set_option maxHeartbeats 1000000 in
theorem pf_X1_carries_13 (p0 : Nat → Int32) (a : Int32) (b1 : Int32) (v_1 : Int32) (v_6 : Int32) (ha : vp_in a 10) (hb1 : vp_in b1 10) (ev_1 : v_1 = p0 a.toNatClampNeg) (c_2 : ¬ v_1 = 1) (ev_6 : v_6 = p0 a.toNatClampNeg) (c_7 : v_6 = 2) : vp_in a 10 := by
  exact ha
set_option maxHeartbeats 1000000 in
theorem pf_X1_carries_14 (p0 : Nat → Int32) (p1 : Nat → Int32) (a : Int32) (b1 : Int32) (v_1 : Int32) (v_6 : Int32) (v_14 : Int32) (ha : vp_in a 10) (hb1 : vp_in b1 10) (ev_1 : v_1 = p0 a.toNatClampNeg) (c_2 : ¬ v_1 = 1) (ev_6 : v_6 = p0 a.toNatClampNeg) (c_7 : v_6 = 2) (ev_14 : v_14 = p1 a.toNatClampNeg) : vp_in b1 10 := by
  exact hb1
set_option maxHeartbeats 1000000 in
theorem pf_X1_carries_15 (p0 : Nat → Int32) (p1 : Nat → Int32) (a : Int32) (b1 : Int32) (v_1 : Int32) (v_6 : Int32) (v_14 : Int32) (v_15 : Int32) (ha : vp_in a 10) (hb1 : vp_in b1 10) (ev_1 : v_1 = p0 a.toNatClampNeg) (c_2 : ¬ v_1 = 1) (ev_6 : v_6 = p0 a.toNatClampNeg) (c_7 : v_6 = 2) (ev_14 : v_14 = p1 a.toNatClampNeg) (ev_15 : v_15 = p1 b1.toNatClampNeg) (c_16 : ¬ v_14 = v_15) : ((0 : Int32) = 0 ↔ ¬ carB p0 p1 a.toNatClampNeg b1.toNatClampNeg = true) := by
  rw [carB_iff]
  clear ha hb1
  grind
set_option maxHeartbeats 1000000 in
theorem pf_X1_carries_16 (p0 : Nat → Int32) (p1 : Nat → Int32) (a : Int32) (b1 : Int32) (v_1 : Int32) (v_6 : Int32) (v_14 : Int32) (v_15 : Int32) (ha : vp_in a 10) (hb1 : vp_in b1 10) (ev_1 : v_1 = p0 a.toNatClampNeg) (c_2 : ¬ v_1 = 1) (ev_6 : v_6 = p0 a.toNatClampNeg) (c_7 : v_6 = 2) (ev_14 : v_14 = p1 a.toNatClampNeg) (ev_15 : v_15 = p1 b1.toNatClampNeg) (c_16 : v_14 = v_15) : ((1 : Int32) = 0 ↔ ¬ carB p0 p1 a.toNatClampNeg b1.toNatClampNeg = true) := by
  rw [carB_iff]
  clear ha hb1
  grind
set_option maxHeartbeats 4000000 in
set_option maxRecDepth 100000 in
theorem c_X1_carries (l : Launch) (D : va_G) (cI cQ : ClassId) (sz : Nat) (h1 : Nat) (k0 : Nat) (k1 : Nat) (k2 : Nat) (k3 : Nat) (k4 : Nat) (k5 : Nat) (k6 : Nat) (k7 : Nat) (num : Int32) (p0 : Nat → Int32) (p1 : Nat → Int32) (a : Int32) (b1 : Int32) (ha : vp_in a 10) (hb1 : vp_in b1 10) : CtI l yX1_carries wsX1_carries 0 0 0 0 [.ref h1, .int a, .int b1] D [(cI, .int), (cQ, .array .int)] [(h1, .inr (1, [.ref k0, .ref k1, .ref k2, .ref k3, .ref k4, .ref k5, .ref k6, .ref k7, .int num])), (k0, .inl (cI, 10, .inl p0)), (k1, .inl (cI, 10, .inl p1))] sz (fun (r : Int32) (u : Unit) => (r = 0 ↔ ¬ carB p0 p1 a.toNatClampNeg b1.toNatClampNeg = true)) (fun (u : Unit) => [(h1, .inr (1, [.ref k0, .ref k1, .ref k2, .ref k3, .ref k4, .ref k5, .ref k6, .ref k7, .int num])), (k0, .inl (cI, 10, .inl p0)), (k1, .inl (cI, 10, .inl p1))]) := by
  refine Met.ofW (cc := cX1_carries) (maxL := 3) (ret := (some .boolean)) (by decide) rfl ?_
  intro p e s m args below meth c s₁ B hml hv
  obtain ⟨rfl, hsz, hP, hK, hD0, hN⟩ := hv
  have hx := B.exec
  have hb := B.bytes
  have hr := B.returns
  have hts := atoms_spec (ws := wsX1_carries) B.pre
  have hown : s.vm.findClass RX1 = some m.cls := findClass_of_methodNamed B.named
  have hlocks := B.notSynchronized
  subst hsz
  have hD := hD0.self (sz := s.heap.size)
  generalize hAe : va_A [(h1, .inr (1, [.ref k0, .ref k1, .ref k2, .ref k3, .ref k4, .ref k5, .ref k6, .ref k7, .int num])), (k0, .inl (cI, 10, .inl p0)), (k1, .inl (cI, 10, .inl p1))] s.heap.size = A at hD ⊢
  have hA : ∀ q : Nat, s.heap.size ≤ q → A q := fun q h => by rw [← hAe]; exact Or.inr h
  have hS : va_S A s.heap s.heap [] := va_S.rf
  have hl := lv_entry ([.ref h1, .int a, .int b1]) (n := 3) (Nat.le_of_ble_eq_true rfl)
  rw [lg_entry_eq]
  generalize (lg_sl ([.ref h1, .int a, .int b1]) ++ List.replicate (3 - (lg_sl ([.ref h1, .int a, .int b1])).length) Slot.unset).toArray = ls at hl ⊢
  have hl : lv_has ls 3 [(0, .ref h1), (1, .int a), (2, .int b1)] := hl
  have hP0 := hP
  refine lv_aload_n hx hb dX1_carries_0 rfl (lv_at hl 0 rfl) ?_
  refine va_get (D := D) (ci := 1) (v := .ref k0) (C := RX1) (T := TX1) (N := 9) hx hb hts iw_X1_carries_1 hown hK hP 0 rfl rfl 0 (by decide) (hts _ wd_X1_carries_1) (fun _ h9 => h9) rfl dX1_carries_1 ?_
  refine lv_iload_n hx hb dX1_carries_4 rfl (lv_at hl 1 rfl) ?_
  refine va_iald hx hb hK hP 1 0 rfl rfl (pf_X1_carries_1 a b1 ha hb1) dX1_carries_5 ?_
  refine lv_topi (fun v_1 ev_1 => ?_)
  refine lv_iconst (v := 1) hx hb dX1_carries_6 (by decide) ?_
  refine lv_icmp_eq (tgt := 20) hx hb dX1_carries_7 (by decide) (fun c_2 => ?_) (fun c_2 => ?_)
  · refine lv_aload_n hx hb dX1_carries_20 rfl (lv_at hl 0 rfl) ?_
    refine va_get (D := D) (ci := 1) (v := .ref k1) (C := RX1) (T := TX1) (N := 9) hx hb hts iw_X1_carries_1 hown hK hP 0 rfl rfl 1 (by decide) (hts _ wd_X1_carries_2) (fun _ h9 => h9) rfl dX1_carries_21 ?_
    refine lv_iload_n hx hb dX1_carries_24 rfl (lv_at hl 1 rfl) ?_
    refine va_iald hx hb hK hP 2 0 rfl rfl (pf_X1_carries_2 p0 a b1 v_1 ha hb1 ev_1 c_2) dX1_carries_25 ?_
    refine lv_topi (fun v_3 ev_3 => ?_)
    refine lv_aload_n hx hb dX1_carries_26 rfl (lv_at hl 0 rfl) ?_
    refine va_get (D := D) (ci := 1) (v := .ref k1) (C := RX1) (T := TX1) (N := 9) hx hb hts iw_X1_carries_1 hown hK hP 0 rfl rfl 1 (by decide) (hts _ wd_X1_carries_2) (fun _ h9 => h9) rfl dX1_carries_27 ?_
    refine lv_iload_n hx hb dX1_carries_30 rfl (lv_at hl 2 rfl) ?_
    refine va_iald hx hb hK hP 2 0 rfl rfl (pf_X1_carries_3 p0 p1 a b1 v_1 v_3 ha hb1 ev_1 c_2 ev_3) dX1_carries_31 ?_
    refine lv_topi (fun v_4 ev_4 => ?_)
    refine lv_icmp_ne (tgt := 39) hx hb dX1_carries_32 (by decide) (fun c_5 => ?_) (fun c_5 => ?_)
    · refine lv_iconst (v := 0) hx hb dX1_carries_39 (by decide) ?_
      refine W.widen (k := 0) (n := 0) (Nat.le_of_ble_eq_true rfl) (Nat.le_of_ble_eq_true rfl) ?_
      exact fi_z () hx hb hr rfl hlocks hK (hP.sub [0, 1, 2] rfl) (hD.sub [0, 1, 2] (by decide) rfl) hS (pf_X1_carries_4 p0 p1 a b1 v_1 v_3 v_4 ha hb1 ev_1 c_2 ev_3 ev_4 c_5) dX1_carries_40
    · refine lv_iconst (v := 1) hx hb dX1_carries_35 (by decide) ?_
      refine lv_goto (tgt := 40) hx hb dX1_carries_36 (by decide) ?_
      refine W.widen (k := 0) (n := 0) (Nat.le_of_ble_eq_true rfl) (Nat.le_of_ble_eq_true rfl) ?_
      exact fi_z () hx hb hr rfl hlocks hK (hP.sub [0, 1, 2] rfl) (hD.sub [0, 1, 2] (by decide) rfl) hS (pf_X1_carries_5 p0 p1 a b1 v_1 v_3 v_4 ha hb1 ev_1 c_2 ev_3 ev_4 c_5) dX1_carries_40
  · refine lv_aload_n hx hb dX1_carries_10 rfl (lv_at hl 0 rfl) ?_
    refine va_get (D := D) (ci := 1) (v := .ref k0) (C := RX1) (T := TX1) (N := 9) hx hb hts iw_X1_carries_1 hown hK hP 0 rfl rfl 0 (by decide) (hts _ wd_X1_carries_1) (fun _ h9 => h9) rfl dX1_carries_11 ?_
    refine lv_iload_n hx hb dX1_carries_14 rfl (lv_at hl 1 rfl) ?_
    refine va_iald hx hb hK hP 1 0 rfl rfl (pf_X1_carries_6 p0 a b1 v_1 ha hb1 ev_1 c_2) dX1_carries_15 ?_
    refine lv_topi (fun v_6 ev_6 => ?_)
    refine lv_iconst (v := 2) hx hb dX1_carries_16 (by decide) ?_
    refine lv_icmp_ne (tgt := 41) hx hb dX1_carries_17 (by decide) (fun c_7 => ?_) (fun c_7 => ?_)
    · refine lv_aload_n hx hb dX1_carries_41 rfl (lv_at hl 0 rfl) ?_
      refine va_get (D := D) (ci := 1) (v := .ref k0) (C := RX1) (T := TX1) (N := 9) hx hb hts iw_X1_carries_1 hown hK hP 0 rfl rfl 0 (by decide) (hts _ wd_X1_carries_1) (fun _ h9 => h9) rfl dX1_carries_42 ?_
      refine lv_iload_n hx hb dX1_carries_45 rfl (lv_at hl 1 rfl) ?_
      refine va_iald hx hb hK hP 1 0 rfl rfl (pf_X1_carries_7 p0 a b1 v_1 v_6 ha hb1 ev_1 c_2 ev_6 c_7) dX1_carries_46 ?_
      refine lv_topi (fun v_8 ev_8 => ?_)
      refine lv_if_ne (tgt := 71) hx hb dX1_carries_47 (by decide) (fun c_9 => ?_) (fun c_9 => ?_)
      · refine lv_iconst (v := 0) hx hb dX1_carries_71 (by decide) ?_
        refine W.widen (k := 0) (n := 0) (Nat.le_of_ble_eq_true rfl) (Nat.le_of_ble_eq_true rfl) ?_
        exact fi_z () hx hb hr rfl hlocks hK (hP.sub [0, 1, 2] rfl) (hD.sub [0, 1, 2] (by decide) rfl) hS (pf_X1_carries_8 p0 p1 a b1 v_1 v_6 v_8 ha hb1 ev_1 c_2 ev_6 c_7 ev_8 c_9) dX1_carries_72
      · refine lv_aload_n hx hb dX1_carries_50 rfl (lv_at hl 0 rfl) ?_
        refine va_get (D := D) (ci := 1) (v := .ref k1) (C := RX1) (T := TX1) (N := 9) hx hb hts iw_X1_carries_1 hown hK hP 0 rfl rfl 1 (by decide) (hts _ wd_X1_carries_2) (fun _ h9 => h9) rfl dX1_carries_51 ?_
        refine lv_iload_n hx hb dX1_carries_54 rfl (lv_at hl 1 rfl) ?_
        refine va_iald hx hb hK hP 2 0 rfl rfl (pf_X1_carries_9 p0 a b1 v_1 v_6 v_8 ha hb1 ev_1 c_2 ev_6 c_7 ev_8 c_9) dX1_carries_55 ?_
        refine lv_topi (fun v_10 ev_10 => ?_)
        refine lv_aload_n hx hb dX1_carries_56 rfl (lv_at hl 0 rfl) ?_
        refine va_get (D := D) (ci := 1) (v := .ref k1) (C := RX1) (T := TX1) (N := 9) hx hb hts iw_X1_carries_1 hown hK hP 0 rfl rfl 1 (by decide) (hts _ wd_X1_carries_2) (fun _ h9 => h9) rfl dX1_carries_57 ?_
        refine lv_iload_n hx hb dX1_carries_60 rfl (lv_at hl 2 rfl) ?_
        refine va_iald hx hb hK hP 2 0 rfl rfl (pf_X1_carries_10 p0 p1 a b1 v_1 v_6 v_8 v_10 ha hb1 ev_1 c_2 ev_6 c_7 ev_8 c_9 ev_10) dX1_carries_61 ?_
        refine lv_topi (fun v_11 ev_11 => ?_)
        refine lv_iconst (v := 1) hx hb dX1_carries_62 (by decide) ?_
        refine lv_isub hx hb dX1_carries_63 ?_
        refine lv_topi (fun v_12 ev_12 => ?_)
        refine lv_icmp_ne (tgt := 71) hx hb dX1_carries_64 (by decide) (fun c_13 => ?_) (fun c_13 => ?_)
        · refine lv_iconst (v := 0) hx hb dX1_carries_71 (by decide) ?_
          refine W.widen (k := 0) (n := 0) (Nat.le_of_ble_eq_true rfl) (Nat.le_of_ble_eq_true rfl) ?_
          exact fi_z () hx hb hr rfl hlocks hK (hP.sub [0, 1, 2] rfl) (hD.sub [0, 1, 2] (by decide) rfl) hS (pf_X1_carries_11 p0 p1 a b1 v_1 v_6 v_8 v_10 v_11 v_12 ha hb1 ev_1 c_2 ev_6 c_7 ev_8 c_9 ev_10 ev_11 ev_12 c_13) dX1_carries_72
        · refine lv_iconst (v := 1) hx hb dX1_carries_67 (by decide) ?_
          refine lv_goto (tgt := 72) hx hb dX1_carries_68 (by decide) ?_
          refine W.widen (k := 0) (n := 0) (Nat.le_of_ble_eq_true rfl) (Nat.le_of_ble_eq_true rfl) ?_
          exact fi_z () hx hb hr rfl hlocks hK (hP.sub [0, 1, 2] rfl) (hD.sub [0, 1, 2] (by decide) rfl) hS (pf_X1_carries_12 p0 p1 a b1 v_1 v_6 v_8 v_10 v_11 v_12 ha hb1 ev_1 c_2 ev_6 c_7 ev_8 c_9 ev_10 ev_11 ev_12 c_13) dX1_carries_72
    · refine lv_aload_n hx hb dX1_carries_20 rfl (lv_at hl 0 rfl) ?_
      refine va_get (D := D) (ci := 1) (v := .ref k1) (C := RX1) (T := TX1) (N := 9) hx hb hts iw_X1_carries_1 hown hK hP 0 rfl rfl 1 (by decide) (hts _ wd_X1_carries_2) (fun _ h9 => h9) rfl dX1_carries_21 ?_
      refine lv_iload_n hx hb dX1_carries_24 rfl (lv_at hl 1 rfl) ?_
      refine va_iald hx hb hK hP 2 0 rfl rfl (pf_X1_carries_13 p0 a b1 v_1 v_6 ha hb1 ev_1 c_2 ev_6 c_7) dX1_carries_25 ?_
      refine lv_topi (fun v_14 ev_14 => ?_)
      refine lv_aload_n hx hb dX1_carries_26 rfl (lv_at hl 0 rfl) ?_
      refine va_get (D := D) (ci := 1) (v := .ref k1) (C := RX1) (T := TX1) (N := 9) hx hb hts iw_X1_carries_1 hown hK hP 0 rfl rfl 1 (by decide) (hts _ wd_X1_carries_2) (fun _ h9 => h9) rfl dX1_carries_27 ?_
      refine lv_iload_n hx hb dX1_carries_30 rfl (lv_at hl 2 rfl) ?_
      refine va_iald hx hb hK hP 2 0 rfl rfl (pf_X1_carries_14 p0 p1 a b1 v_1 v_6 v_14 ha hb1 ev_1 c_2 ev_6 c_7 ev_14) dX1_carries_31 ?_
      refine lv_topi (fun v_15 ev_15 => ?_)
      refine lv_icmp_ne (tgt := 39) hx hb dX1_carries_32 (by decide) (fun c_16 => ?_) (fun c_16 => ?_)
      · refine lv_iconst (v := 0) hx hb dX1_carries_39 (by decide) ?_
        refine W.widen (k := 0) (n := 0) (Nat.le_of_ble_eq_true rfl) (Nat.le_of_ble_eq_true rfl) ?_
        exact fi_z () hx hb hr rfl hlocks hK (hP.sub [0, 1, 2] rfl) (hD.sub [0, 1, 2] (by decide) rfl) hS (pf_X1_carries_15 p0 p1 a b1 v_1 v_6 v_14 v_15 ha hb1 ev_1 c_2 ev_6 c_7 ev_14 ev_15 c_16) dX1_carries_40
      · refine lv_iconst (v := 1) hx hb dX1_carries_35 (by decide) ?_
        refine lv_goto (tgt := 40) hx hb dX1_carries_36 (by decide) ?_
        refine W.widen (k := 0) (n := 0) (Nat.le_of_ble_eq_true rfl) (Nat.le_of_ble_eq_true rfl) ?_
        exact fi_z () hx hb hr rfl hlocks hK (hP.sub [0, 1, 2] rfl) (hD.sub [0, 1, 2] (by decide) rfl) hS (pf_X1_carries_16 p0 p1 a b1 v_1 v_6 v_14 v_15 ha hb1 ev_1 c_2 ev_6 c_7 ev_14 ev_15 c_16) dX1_carries_40

theorem iw_X1_unpourFrom_1 : ∀ w ∈ wsX10, w ∈ wsX1_unpourFrom := fun w h => (List.mem_cons_of_mem _ (List.mem_append_right _ h))
theorem wd_X1_unpourFrom_1 : (.fieldLink RX1 38 "PourPlan$Pieces" "number" "I" : Cond) ∈ wsX1_unpourFrom := List.mem_of_getElem? (i := 1) rfl
theorem wd_X1_unpourFrom_2 : (.fieldLink RX1 27 "PourPlan$Pieces" "days" "[I" : Cond) ∈ wsX1_unpourFrom := List.mem_of_getElem? (i := 2) rfl
set_option maxHeartbeats 1000000 in
theorem pf_X1_unpourFrom_1 (num : Int32) (p5 : Nat → Int32) (day : Int32) (n_4 : Nat) (k : Int32) (kc : Int32) (pd : Nat → Int32) (hn0 : 0 ≤ num) (hn1 : num ≤ 10) (hn_4 : 10 - k.toNatClampNeg < n_4 + 1) (h0k : 0 ≤ k) (hk : k ≤ num) (hpd : pd = unp k.toNatClampNeg day p5) (hkc : kc = cnG day p5 k.toNatClampNeg) (c_1 : num ≤ k) : pd = unp num.toNatClampNeg day p5 := by
  have e9 : k = num := by grind
  rw [hpd, e9]
set_option maxHeartbeats 1000000 in
theorem pf_X1_unpourFrom_2 (num : Int32) (p5 : Nat → Int32) (day : Int32) (n_4 : Nat) (k : Int32) (kc : Int32) (pd : Nat → Int32) (hn0 : 0 ≤ num) (hn1 : num ≤ 10) (hn_4 : 10 - k.toNatClampNeg < n_4 + 1) (h0k : 0 ≤ k) (hk : k ≤ num) (hpd : pd = unp k.toNatClampNeg day p5) (hkc : kc = cnG day p5 k.toNatClampNeg) (c_1 : num ≤ k) : kc = cnG day p5 num.toNatClampNeg := by
  have e9 : k = num := by grind
  rw [hkc, e9]
set_option maxHeartbeats 1000000 in
theorem pf_X1_unpourFrom_3 (num : Int32) (p5 : Nat → Int32) (day : Int32) (n_4 : Nat) (k : Int32) (kc : Int32) (pd : Nat → Int32) (hn0 : 0 ≤ num) (hn1 : num ≤ 10) (hn_4 : 10 - k.toNatClampNeg < n_4 + 1) (h0k : 0 ≤ k) (hk : k ≤ num) (hpd : pd = unp k.toNatClampNeg day p5) (hkc : kc = cnG day p5 k.toNatClampNeg) (c_1 : ¬ num ≤ k) : vp_in k 10 := by
  exact vi_in (M := 10) rfl (by grind) (by grind)
set_option maxHeartbeats 1000000 in
theorem pf_X1_unpourFrom_4 (num : Int32) (p5 : Nat → Int32) (day : Int32) (n_4 : Nat) (k : Int32) (kc : Int32) (pd : Nat → Int32) (v_2 : Int32) (v_4 : Int32) (hn0 : 0 ≤ num) (hn1 : num ≤ 10) (hn_4 : 10 - k.toNatClampNeg < n_4 + 1) (h0k : 0 ≤ k) (hk : k ≤ num) (hpd : pd = unp k.toNatClampNeg day p5) (hkc : kc = cnG day p5 k.toNatClampNeg) (c_1 : ¬ num ≤ k) (ev_2 : v_2 = pd k.toNatClampNeg) (c_3 : v_2 < day) (ev_4 : v_4 = k + 1) : 10 - v_4.toNatClampNeg < n_4 := by
  exact ms_dec (L := 10) (k := k) (by grind) (show ¬ (10 : Int32) ≤ k by grind) (by omega) (by assumption) hn_4
set_option maxHeartbeats 1000000 in
theorem pf_X1_unpourFrom_5 (num : Int32) (p5 : Nat → Int32) (day : Int32) (n_4 : Nat) (k : Int32) (kc : Int32) (pd : Nat → Int32) (v_2 : Int32) (v_4 : Int32) (hn0 : 0 ≤ num) (hn1 : num ≤ 10) (hn_4 : 10 - k.toNatClampNeg < n_4 + 1) (h0k : 0 ≤ k) (hk : k ≤ num) (hpd : pd = unp k.toNatClampNeg day p5) (hkc : kc = cnG day p5 k.toNatClampNeg) (c_1 : ¬ num ≤ k) (ev_2 : v_2 = pd k.toNatClampNeg) (c_3 : v_2 < day) (ev_4 : v_4 = k + 1) : 0 ≤ v_4 := by
  grind
set_option maxHeartbeats 1000000 in
theorem pf_X1_unpourFrom_6 (num : Int32) (p5 : Nat → Int32) (day : Int32) (n_4 : Nat) (k : Int32) (kc : Int32) (pd : Nat → Int32) (v_2 : Int32) (v_4 : Int32) (hn0 : 0 ≤ num) (hn1 : num ≤ 10) (hn_4 : 10 - k.toNatClampNeg < n_4 + 1) (h0k : 0 ≤ k) (hk : k ≤ num) (hpd : pd = unp k.toNatClampNeg day p5) (hkc : kc = cnG day p5 k.toNatClampNeg) (c_1 : ¬ num ≤ k) (ev_2 : v_2 = pd k.toNatClampNeg) (c_3 : v_2 < day) (ev_4 : v_4 = k + 1) : v_4 ≤ num := by
  grind
set_option maxHeartbeats 1000000 in
theorem pf_X1_unpourFrom_7 (num : Int32) (p5 : Nat → Int32) (day : Int32) (n_4 : Nat) (k : Int32) (kc : Int32) (pd : Nat → Int32) (v_2 : Int32) (v_4 : Int32) (hn0 : 0 ≤ num) (hn1 : num ≤ 10) (hn_4 : 10 - k.toNatClampNeg < n_4 + 1) (h0k : 0 ≤ k) (hk : k ≤ num) (hpd : pd = unp k.toNatClampNeg day p5) (hkc : kc = cnG day p5 k.toNatClampNeg) (c_1 : ¬ num ≤ k) (ev_2 : v_2 = pd k.toNatClampNeg) (c_3 : v_2 < day) (ev_4 : v_4 = k + 1) : pd = unp v_4.toNatClampNeg day p5 := by
  have h9 := unp_s (k := k) h0k (by grind) (by assumption) hpd
  first
  | exact h9.1 (by grind)
  | exact h9.2.1 (by grind)
set_option maxHeartbeats 1000000 in
theorem pf_X1_unpourFrom_8 (num : Int32) (p5 : Nat → Int32) (day : Int32) (n_4 : Nat) (k : Int32) (kc : Int32) (pd : Nat → Int32) (v_2 : Int32) (v_4 : Int32) (hn0 : 0 ≤ num) (hn1 : num ≤ 10) (hn_4 : 10 - k.toNatClampNeg < n_4 + 1) (h0k : 0 ≤ k) (hk : k ≤ num) (hpd : pd = unp k.toNatClampNeg day p5) (hkc : kc = cnG day p5 k.toNatClampNeg) (c_1 : ¬ num ≤ k) (ev_2 : v_2 = pd k.toNatClampNeg) (c_3 : v_2 < day) (ev_4 : v_4 = k + 1) : kc = cnG day p5 v_4.toNatClampNeg := by
  have h9 := unp_s (k := k) h0k (by grind) (by assumption) hpd
  rw [cnG_s (k := k) h0k (by grind) (by assumption), ← h9.2.2, ← hkc]
  grind
set_option maxHeartbeats 1000000 in
theorem pf_X1_unpourFrom_9 (num : Int32) (p5 : Nat → Int32) (day : Int32) (n_4 : Nat) (k : Int32) (kc : Int32) (pd : Nat → Int32) (v_2 : Int32) (hn0 : 0 ≤ num) (hn1 : num ≤ 10) (hn_4 : 10 - k.toNatClampNeg < n_4 + 1) (h0k : 0 ≤ k) (hk : k ≤ num) (hpd : pd = unp k.toNatClampNeg day p5) (hkc : kc = cnG day p5 k.toNatClampNeg) (c_1 : ¬ num ≤ k) (ev_2 : v_2 = pd k.toNatClampNeg) (c_3 : ¬ v_2 < day) : vp_in k 10 := by
  exact vi_in (M := 10) rfl (by grind) (by grind)
set_option maxHeartbeats 1000000 in
theorem pf_X1_unpourFrom_10 (num : Int32) (p5 : Nat → Int32) (day : Int32) (n_4 : Nat) (k : Int32) (kc : Int32) (pd : Nat → Int32) (v_2 : Int32) (v_5 : Int32) (v_6 : Int32) (hn0 : 0 ≤ num) (hn1 : num ≤ 10) (hn_4 : 10 - k.toNatClampNeg < n_4 + 1) (h0k : 0 ≤ k) (hk : k ≤ num) (hpd : pd = unp k.toNatClampNeg day p5) (hkc : kc = cnG day p5 k.toNatClampNeg) (c_1 : ¬ num ≤ k) (ev_2 : v_2 = pd k.toNatClampNeg) (c_3 : ¬ v_2 < day) (ev_5 : v_5 = kc + 1) (ev_6 : v_6 = k + 1) : 10 - v_6.toNatClampNeg < n_4 := by
  exact ms_dec (L := 10) (k := k) (by grind) (show ¬ (10 : Int32) ≤ k by grind) (by omega) (by assumption) hn_4
set_option maxHeartbeats 1000000 in
theorem pf_X1_unpourFrom_11 (num : Int32) (p5 : Nat → Int32) (day : Int32) (n_4 : Nat) (k : Int32) (kc : Int32) (pd : Nat → Int32) (v_2 : Int32) (v_5 : Int32) (v_6 : Int32) (hn0 : 0 ≤ num) (hn1 : num ≤ 10) (hn_4 : 10 - k.toNatClampNeg < n_4 + 1) (h0k : 0 ≤ k) (hk : k ≤ num) (hpd : pd = unp k.toNatClampNeg day p5) (hkc : kc = cnG day p5 k.toNatClampNeg) (c_1 : ¬ num ≤ k) (ev_2 : v_2 = pd k.toNatClampNeg) (c_3 : ¬ v_2 < day) (ev_5 : v_5 = kc + 1) (ev_6 : v_6 = k + 1) : 0 ≤ v_6 := by
  grind
set_option maxHeartbeats 1000000 in
theorem pf_X1_unpourFrom_12 (num : Int32) (p5 : Nat → Int32) (day : Int32) (n_4 : Nat) (k : Int32) (kc : Int32) (pd : Nat → Int32) (v_2 : Int32) (v_5 : Int32) (v_6 : Int32) (hn0 : 0 ≤ num) (hn1 : num ≤ 10) (hn_4 : 10 - k.toNatClampNeg < n_4 + 1) (h0k : 0 ≤ k) (hk : k ≤ num) (hpd : pd = unp k.toNatClampNeg day p5) (hkc : kc = cnG day p5 k.toNatClampNeg) (c_1 : ¬ num ≤ k) (ev_2 : v_2 = pd k.toNatClampNeg) (c_3 : ¬ v_2 < day) (ev_5 : v_5 = kc + 1) (ev_6 : v_6 = k + 1) : v_6 ≤ num := by
  grind
set_option maxHeartbeats 1000000 in
theorem pf_X1_unpourFrom_13 (num : Int32) (p5 : Nat → Int32) (day : Int32) (n_4 : Nat) (k : Int32) (kc : Int32) (pd : Nat → Int32) (v_2 : Int32) (v_5 : Int32) (v_6 : Int32) (hn0 : 0 ≤ num) (hn1 : num ≤ 10) (hn_4 : 10 - k.toNatClampNeg < n_4 + 1) (h0k : 0 ≤ k) (hk : k ≤ num) (hpd : pd = unp k.toNatClampNeg day p5) (hkc : kc = cnG day p5 k.toNatClampNeg) (c_1 : ¬ num ≤ k) (ev_2 : v_2 = pd k.toNatClampNeg) (c_3 : ¬ v_2 < day) (ev_5 : v_5 = kc + 1) (ev_6 : v_6 = k + 1) : (upd pd k.toNatClampNeg (-1)) = unp v_6.toNatClampNeg day p5 := by
  have h9 := unp_s (k := k) h0k (by grind) (by assumption) hpd
  first
  | exact h9.1 (by grind)
  | exact h9.2.1 (by grind)
set_option maxHeartbeats 1000000 in
theorem pf_X1_unpourFrom_14 (num : Int32) (p5 : Nat → Int32) (day : Int32) (n_4 : Nat) (k : Int32) (kc : Int32) (pd : Nat → Int32) (v_2 : Int32) (v_5 : Int32) (v_6 : Int32) (hn0 : 0 ≤ num) (hn1 : num ≤ 10) (hn_4 : 10 - k.toNatClampNeg < n_4 + 1) (h0k : 0 ≤ k) (hk : k ≤ num) (hpd : pd = unp k.toNatClampNeg day p5) (hkc : kc = cnG day p5 k.toNatClampNeg) (c_1 : ¬ num ≤ k) (ev_2 : v_2 = pd k.toNatClampNeg) (c_3 : ¬ v_2 < day) (ev_5 : v_5 = kc + 1) (ev_6 : v_6 = k + 1) : v_5 = cnG day p5 v_6.toNatClampNeg := by
  have h9 := unp_s (k := k) h0k (by grind) (by assumption) hpd
  rw [cnG_s (k := k) h0k (by grind) (by assumption), ← h9.2.2, ← hkc]
  grind
set_option maxHeartbeats 1000000 in
theorem pf_X1_unpourFrom_15 (num : Int32) (hn0 : 0 ≤ num) (hn1 : num ≤ 10) : 0 ≤ (0 : Int32) := by
  grind
set_option maxHeartbeats 1000000 in
theorem pf_X1_unpourFrom_16 (num : Int32) (hn0 : 0 ≤ num) (hn1 : num ≤ 10) : (0 : Int32) ≤ num := by
  grind
set_option maxHeartbeats 1000000 in
theorem pf_X1_unpourFrom_17 (num : Int32) (p5 : Nat → Int32) (day : Int32) (hn0 : 0 ≤ num) (hn1 : num ≤ 10) : p5 = unp (0 : Int32).toNatClampNeg day p5 := by
  exact unp_0.symm
set_option maxHeartbeats 1000000 in
theorem pf_X1_unpourFrom_18 (num : Int32) (p5 : Nat → Int32) (day : Int32) (hn0 : 0 ≤ num) (hn1 : num ≤ 10) : (0 : Int32) = cnG day p5 (0 : Int32).toNatClampNeg := by
  rfl
set_option maxHeartbeats 4000000 in
set_option maxRecDepth 100000 in
theorem c_X1_unpourFrom (l : Launch) (D : va_G) (cI cQ : ClassId) (sz : Nat) (h1 : Nat) (k5 : Nat) (k0 : Nat) (k1 : Nat) (k2 : Nat) (k3 : Nat) (k4 : Nat) (k6 : Nat) (k7 : Nat) (num : Int32) (p5 : Nat → Int32) (day : Int32) (hn0 : 0 ≤ num) (hn1 : num ≤ 10) : CtI l yX1_unpourFrom wsX1_unpourFrom 0 0 0 0 [.ref h1, .int day] D [(cI, .int), (cQ, .array .int)] [(h1, .inr (1, [.ref k0, .ref k1, .ref k2, .ref k3, .ref k4, .ref k5, .ref k6, .ref k7, .int num])), (k5, .inl (cI, 10, .inl p5))] sz (fun (r : Int32) (u : (Nat → Int32)) => u = unp num.toNatClampNeg day p5 ∧ r = cnG day p5 num.toNatClampNeg) (fun (u : (Nat → Int32)) => [(h1, .inr (1, [.ref k0, .ref k1, .ref k2, .ref k3, .ref k4, .ref k5, .ref k6, .ref k7, .int num])), (k5, .inl (cI, 10, .inl u))]) := by
  refine Met.ofW (cc := cX1_unpourFrom) (maxL := 4) (ret := (some .int)) (by decide) rfl ?_
  intro p e s m args below meth c s₁ B hml hv
  obtain ⟨rfl, hsz, hP, hK, hD0, hN⟩ := hv
  have hx := B.exec
  have hb := B.bytes
  have hr := B.returns
  have hts := atoms_spec (ws := wsX1_unpourFrom) B.pre
  have hown : s.vm.findClass RX1 = some m.cls := findClass_of_methodNamed B.named
  have hlocks := B.notSynchronized
  subst hsz
  have hD := hD0.self (sz := s.heap.size)
  generalize hAe : va_A [(h1, .inr (1, [.ref k0, .ref k1, .ref k2, .ref k3, .ref k4, .ref k5, .ref k6, .ref k7, .int num])), (k5, .inl (cI, 10, .inl p5))] s.heap.size = A at hD ⊢
  have hA : ∀ q : Nat, s.heap.size ≤ q → A q := fun q h => by rw [← hAe]; exact Or.inr h
  have hS : va_S A s.heap s.heap [] := va_S.rf
  have hl := lv_entry ([.ref h1, .int day]) (n := 4) (Nat.le_of_ble_eq_true rfl)
  rw [lg_entry_eq]
  generalize (lg_sl ([.ref h1, .int day]) ++ List.replicate (4 - (lg_sl ([.ref h1, .int day])).length) Slot.unset).toArray = ls at hl ⊢
  have hl : lv_has ls 4 [(0, .ref h1), (1, .int day)] := hl
  refine W_gen (fun GW hIn hOut => ?_)
  refine hIn _ _ _ _ _ ?_
  have hP0 := hP
  refine lv_iconst (v := 0) hx hb dX1_unpourFrom_0 (by decide) ?_
  refine lv_istore_n (lv' := [(2, .int 0), (0, .ref h1), (1, .int day)]) hx hb dX1_unpourFrom_1 rfl hl (by decide) rfl (fun ls hl => ?_)
  refine lv_iconst (v := 0) hx hb dX1_unpourFrom_2 (by decide) ?_
  refine lv_istore_n (lv' := [(3, .int 0), (2, .int 0), (0, .ref h1), (1, .int day)]) hx hb dX1_unpourFrom_3 rfl hl (by decide) rfl (fun ls hl => ?_)
  have lp_4 : ∀ (n : Nat) (k : Int32) (kc : Int32) (pd : Nat → Int32) (H : Heap) (locs : List Loc) (ls : Array Slot), 10 - k.toNatClampNeg < n → (0 ≤ k) → (k ≤ num) → (pd = unp k.toNatClampNeg day p5) → (kc = cnG day p5 k.toNatClampNeg) → va_P D vwCl [(h1, .inr (1, [.ref k0, .ref k1, .ref k2, .ref k3, .ref k4, .ref k5, .ref k6, .ref k7, .int num])), (k5, .inl (cI, 10, .inl pd))] H → va_D A [(h1, .inr (1, [.ref k0, .ref k1, .ref k2, .ref k3, .ref k4, .ref k5, .ref k6, .ref k7, .int num])), (k5, .inl (cI, 10, .inl pd))] → va_S A s.heap H locs → lv_has ls 4 [(0, .ref h1), (1, .int day), (2, .int kc), (3, .int k)] → GW H locs 0 0 (F0 m 4 ls []) := by
    intro n_4
    induction n_4 with
    | zero => intro k kc pd H locs ls hn_4; exact absurd hn_4 (Nat.not_lt_zero _)
    | succ n_4 ih_4 =>
      intro k kc pd H locs ls hn_4 h0k hk hpd hkc hP hD hS hl
      refine hIn _ _ _ _ _ ?_
      refine lv_iload_n hx hb dX1_unpourFrom_4 rfl (lv_at hl 3 rfl) ?_
      refine lv_aload_n hx hb dX1_unpourFrom_5 rfl (lv_at hl 0 rfl) ?_
      refine va_get (D := D) (ci := 1) (v := .int num) (C := RX1) (T := TX1) (N := 9) hx hb hts iw_X1_unpourFrom_1 hown hK hP 0 rfl rfl 8 (by decide) (hts _ wd_X1_unpourFrom_1) (fun _ h9 => h9) rfl dX1_unpourFrom_6 ?_
      refine lv_icmp_ge (tgt := 38) hx hb dX1_unpourFrom_9 (by decide) (fun c_1 => ?_) (fun c_1 => ?_)
      · refine lv_iload_n hx hb dX1_unpourFrom_38 rfl (lv_at hl 2 rfl) ?_
        refine W.widen (k := 0) (n := 0) (Nat.le_of_ble_eq_true rfl) (Nat.le_of_ble_eq_true rfl) ?_
        exact fi_i pd hx hb hr hlocks hK (hP.sub [0, 1] rfl) (hD.sub [0, 1] (by decide) rfl) hS ⟨(pf_X1_unpourFrom_1 num p5 day n_4 k kc pd hn0 hn1 hn_4 h0k hk hpd hkc c_1), (pf_X1_unpourFrom_2 num p5 day n_4 k kc pd hn0 hn1 hn_4 h0k hk hpd hkc c_1)⟩ dX1_unpourFrom_39
      · refine lv_aload_n hx hb dX1_unpourFrom_12 rfl (lv_at hl 0 rfl) ?_
        refine va_get (D := D) (ci := 1) (v := .ref k5) (C := RX1) (T := TX1) (N := 9) hx hb hts iw_X1_unpourFrom_1 hown hK hP 0 rfl rfl 5 (by decide) (hts _ wd_X1_unpourFrom_2) (fun _ h9 => h9) rfl dX1_unpourFrom_13 ?_
        refine lv_iload_n hx hb dX1_unpourFrom_16 rfl (lv_at hl 3 rfl) ?_
        refine va_iald hx hb hK hP 1 0 rfl rfl (pf_X1_unpourFrom_3 num p5 day n_4 k kc pd hn0 hn1 hn_4 h0k hk hpd hkc c_1) dX1_unpourFrom_17 ?_
        refine lv_topi (fun v_2 ev_2 => ?_)
        refine lv_iload_n hx hb dX1_unpourFrom_18 rfl (lv_at hl 1 rfl) ?_
        refine lv_icmp_lt (tgt := 32) hx hb dX1_unpourFrom_19 (by decide) (fun c_3 => ?_) (fun c_3 => ?_)
        · obtain ⟨v_4, ev_4⟩ : ∃ y : Int32, y = k + 1 := ⟨_, rfl⟩
          refine lv_iinc (v := v_4) (lv' := [(3, .int v_4), (0, .ref h1), (1, .int day), (2, .int kc)]) hx hb dX1_unpourFrom_32 hl (k := 3) rfl (by rw [ev_4]; rfl) (by decide) rfl (fun ls hl => ?_)
          refine lv_goto (tgt := 4) hx hb dX1_unpourFrom_35 (by decide) ?_
          exact hOut _ _ _ _ _ (ih_4 v_4 kc pd _ _ _ (pf_X1_unpourFrom_4 num p5 day n_4 k kc pd v_2 v_4 hn0 hn1 hn_4 h0k hk hpd hkc c_1 ev_2 c_3 ev_4) (pf_X1_unpourFrom_5 num p5 day n_4 k kc pd v_2 v_4 hn0 hn1 hn_4 h0k hk hpd hkc c_1 ev_2 c_3 ev_4) (pf_X1_unpourFrom_6 num p5 day n_4 k kc pd v_2 v_4 hn0 hn1 hn_4 h0k hk hpd hkc c_1 ev_2 c_3 ev_4) (pf_X1_unpourFrom_7 num p5 day n_4 k kc pd v_2 v_4 hn0 hn1 hn_4 h0k hk hpd hkc c_1 ev_2 c_3 ev_4) (pf_X1_unpourFrom_8 num p5 day n_4 k kc pd v_2 v_4 hn0 hn1 hn_4 h0k hk hpd hkc c_1 ev_2 c_3 ev_4) (hP.sub [0, 1] rfl) (hD.sub [0, 1] (by decide) rfl) hS (lv_sub hl [1, 2, 3, 0] rfl))
        · refine lv_aload_n hx hb dX1_unpourFrom_22 rfl (lv_at hl 0 rfl) ?_
          refine va_get (D := D) (ci := 1) (v := .ref k5) (C := RX1) (T := TX1) (N := 9) hx hb hts iw_X1_unpourFrom_1 hown hK hP 0 rfl rfl 5 (by decide) (hts _ wd_X1_unpourFrom_2) (fun _ h9 => h9) rfl dX1_unpourFrom_23 ?_
          refine lv_iload_n hx hb dX1_unpourFrom_26 rfl (lv_at hl 3 rfl) ?_
          refine lv_iconst (v := (-1)) hx hb dX1_unpourFrom_27 (by decide) ?_
          refine va_iast hx hb hK hP hD hS 1 0 rfl rfl (pf_X1_unpourFrom_9 num p5 day n_4 k kc pd v_2 hn0 hn1 hn_4 h0k hk hpd hkc c_1 ev_2 c_3) dX1_unpourFrom_28 (fun H locs hP hD hS => ?_)
          have hP : va_P D vwCl [(h1, .inr (1, [.ref k0, .ref k1, .ref k2, .ref k3, .ref k4, .ref k5, .ref k6, .ref k7, .int num])), (k5, .inl (cI, 10, .inl (upd pd k.toNatClampNeg (-1))))] H := hP
          have hD : va_D A [(h1, .inr (1, [.ref k0, .ref k1, .ref k2, .ref k3, .ref k4, .ref k5, .ref k6, .ref k7, .int num])), (k5, .inl (cI, 10, .inl (upd pd k.toNatClampNeg (-1))))] := hD
          obtain ⟨v_5, ev_5⟩ : ∃ y : Int32, y = kc + 1 := ⟨_, rfl⟩
          refine lv_iinc (v := v_5) (lv' := [(2, .int v_5), (0, .ref h1), (1, .int day), (3, .int k)]) hx hb dX1_unpourFrom_29 hl (k := 2) rfl (by rw [ev_5]; rfl) (by decide) rfl (fun ls hl => ?_)
          obtain ⟨v_6, ev_6⟩ : ∃ y : Int32, y = k + 1 := ⟨_, rfl⟩
          refine lv_iinc (v := v_6) (lv' := [(3, .int v_6), (2, .int v_5), (0, .ref h1), (1, .int day)]) hx hb dX1_unpourFrom_32 hl (k := 3) rfl (by rw [ev_6]; rfl) (by decide) rfl (fun ls hl => ?_)
          refine lv_goto (tgt := 4) hx hb dX1_unpourFrom_35 (by decide) ?_
          exact hOut _ _ _ _ _ (ih_4 v_6 v_5 (upd pd k.toNatClampNeg (-1)) _ _ _ (pf_X1_unpourFrom_10 num p5 day n_4 k kc pd v_2 v_5 v_6 hn0 hn1 hn_4 h0k hk hpd hkc c_1 ev_2 c_3 ev_5 ev_6) (pf_X1_unpourFrom_11 num p5 day n_4 k kc pd v_2 v_5 v_6 hn0 hn1 hn_4 h0k hk hpd hkc c_1 ev_2 c_3 ev_5 ev_6) (pf_X1_unpourFrom_12 num p5 day n_4 k kc pd v_2 v_5 v_6 hn0 hn1 hn_4 h0k hk hpd hkc c_1 ev_2 c_3 ev_5 ev_6) (pf_X1_unpourFrom_13 num p5 day n_4 k kc pd v_2 v_5 v_6 hn0 hn1 hn_4 h0k hk hpd hkc c_1 ev_2 c_3 ev_5 ev_6) (pf_X1_unpourFrom_14 num p5 day n_4 k kc pd v_2 v_5 v_6 hn0 hn1 hn_4 h0k hk hpd hkc c_1 ev_2 c_3 ev_5 ev_6) (hP.sub [0, 1] rfl) (hD.sub [0, 1] (by decide) rfl) hS (lv_sub hl [2, 3, 1, 0] rfl))
  exact hOut _ _ _ _ _ (lp_4 (10 - (0 : Int32).toNatClampNeg + 1) 0 0 p5 _ _ _ (Nat.lt_succ_self _) (pf_X1_unpourFrom_15 num hn0 hn1) (pf_X1_unpourFrom_16 num hn0 hn1) (pf_X1_unpourFrom_17 num p5 day hn0 hn1) (pf_X1_unpourFrom_18 num p5 day hn0 hn1) (hP.sub [0, 1] rfl) (hD.sub [0, 1] (by decide) rfl) hS (lv_sub hl [2, 3, 1, 0] rfl))

theorem iw_X1_howManyPoured_1 : ∀ w ∈ wsX10, w ∈ wsX1_howManyPoured := fun w h => (List.mem_cons_of_mem _ (List.mem_append_right _ h))
theorem wd_X1_howManyPoured_1 : (.fieldLink RX1 38 "PourPlan$Pieces" "number" "I" : Cond) ∈ wsX1_howManyPoured := List.mem_of_getElem? (i := 1) rfl
theorem wd_X1_howManyPoured_2 : (.fieldLink RX1 27 "PourPlan$Pieces" "days" "[I" : Cond) ∈ wsX1_howManyPoured := List.mem_of_getElem? (i := 2) rfl
set_option maxHeartbeats 1000000 in
theorem pf_X1_howManyPoured_1 (num : Int32) (p5 : Nat → Int32) (n_4 : Nat) (k : Int32) (kc : Int32) (hn0 : 0 ≤ num) (hn1 : num ≤ 10) (hn_4 : 10 - k.toNatClampNeg < n_4 + 1) (h0k : 0 ≤ k) (hk : k ≤ num) (hkc : kc = cnP p5 k.toNatClampNeg) (c_1 : num ≤ k) : kc = cnP p5 num.toNatClampNeg := by
  have e9 : k = num := by grind
  rw [hkc, e9]
set_option maxHeartbeats 1000000 in
theorem pf_X1_howManyPoured_2 (num : Int32) (p5 : Nat → Int32) (n_4 : Nat) (k : Int32) (kc : Int32) (hn0 : 0 ≤ num) (hn1 : num ≤ 10) (hn_4 : 10 - k.toNatClampNeg < n_4 + 1) (h0k : 0 ≤ k) (hk : k ≤ num) (hkc : kc = cnP p5 k.toNatClampNeg) (c_1 : ¬ num ≤ k) : vp_in k 10 := by
  exact vi_in (M := 10) rfl (by grind) (by grind)
set_option maxHeartbeats 1000000 in
theorem pf_X1_howManyPoured_3 (num : Int32) (p5 : Nat → Int32) (n_4 : Nat) (k : Int32) (kc : Int32) (v_2 : Int32) (v_4 : Int32) (hn0 : 0 ≤ num) (hn1 : num ≤ 10) (hn_4 : 10 - k.toNatClampNeg < n_4 + 1) (h0k : 0 ≤ k) (hk : k ≤ num) (hkc : kc = cnP p5 k.toNatClampNeg) (c_1 : ¬ num ≤ k) (ev_2 : v_2 = p5 k.toNatClampNeg) (c_3 : v_2 = (-1)) (ev_4 : v_4 = k + 1) : 10 - v_4.toNatClampNeg < n_4 := by
  exact ms_dec (L := 10) (k := k) (by grind) (show ¬ (10 : Int32) ≤ k by grind) (by omega) (by assumption) hn_4
set_option maxHeartbeats 1000000 in
theorem pf_X1_howManyPoured_4 (num : Int32) (p5 : Nat → Int32) (n_4 : Nat) (k : Int32) (kc : Int32) (v_2 : Int32) (v_4 : Int32) (hn0 : 0 ≤ num) (hn1 : num ≤ 10) (hn_4 : 10 - k.toNatClampNeg < n_4 + 1) (h0k : 0 ≤ k) (hk : k ≤ num) (hkc : kc = cnP p5 k.toNatClampNeg) (c_1 : ¬ num ≤ k) (ev_2 : v_2 = p5 k.toNatClampNeg) (c_3 : v_2 = (-1)) (ev_4 : v_4 = k + 1) : 0 ≤ v_4 := by
  grind
set_option maxHeartbeats 1000000 in
theorem pf_X1_howManyPoured_5 (num : Int32) (p5 : Nat → Int32) (n_4 : Nat) (k : Int32) (kc : Int32) (v_2 : Int32) (v_4 : Int32) (hn0 : 0 ≤ num) (hn1 : num ≤ 10) (hn_4 : 10 - k.toNatClampNeg < n_4 + 1) (h0k : 0 ≤ k) (hk : k ≤ num) (hkc : kc = cnP p5 k.toNatClampNeg) (c_1 : ¬ num ≤ k) (ev_2 : v_2 = p5 k.toNatClampNeg) (c_3 : v_2 = (-1)) (ev_4 : v_4 = k + 1) : v_4 ≤ num := by
  grind
set_option maxHeartbeats 1000000 in
theorem pf_X1_howManyPoured_6 (num : Int32) (p5 : Nat → Int32) (n_4 : Nat) (k : Int32) (kc : Int32) (v_2 : Int32) (v_4 : Int32) (hn0 : 0 ≤ num) (hn1 : num ≤ 10) (hn_4 : 10 - k.toNatClampNeg < n_4 + 1) (h0k : 0 ≤ k) (hk : k ≤ num) (hkc : kc = cnP p5 k.toNatClampNeg) (c_1 : ¬ num ≤ k) (ev_2 : v_2 = p5 k.toNatClampNeg) (c_3 : v_2 = (-1)) (ev_4 : v_4 = k + 1) : kc = cnP p5 v_4.toNatClampNeg := by
  rw [cnP_s (k := k) h0k (by grind) (by assumption), ← hkc]
  grind
set_option maxHeartbeats 1000000 in
theorem pf_X1_howManyPoured_7 (num : Int32) (p5 : Nat → Int32) (n_4 : Nat) (k : Int32) (kc : Int32) (v_2 : Int32) (v_5 : Int32) (v_6 : Int32) (hn0 : 0 ≤ num) (hn1 : num ≤ 10) (hn_4 : 10 - k.toNatClampNeg < n_4 + 1) (h0k : 0 ≤ k) (hk : k ≤ num) (hkc : kc = cnP p5 k.toNatClampNeg) (c_1 : ¬ num ≤ k) (ev_2 : v_2 = p5 k.toNatClampNeg) (c_3 : ¬ v_2 = (-1)) (ev_5 : v_5 = kc + 1) (ev_6 : v_6 = k + 1) : 10 - v_6.toNatClampNeg < n_4 := by
  exact ms_dec (L := 10) (k := k) (by grind) (show ¬ (10 : Int32) ≤ k by grind) (by omega) (by assumption) hn_4
set_option maxHeartbeats 1000000 in
theorem pf_X1_howManyPoured_8 (num : Int32) (p5 : Nat → Int32) (n_4 : Nat) (k : Int32) (kc : Int32) (v_2 : Int32) (v_5 : Int32) (v_6 : Int32) (hn0 : 0 ≤ num) (hn1 : num ≤ 10) (hn_4 : 10 - k.toNatClampNeg < n_4 + 1) (h0k : 0 ≤ k) (hk : k ≤ num) (hkc : kc = cnP p5 k.toNatClampNeg) (c_1 : ¬ num ≤ k) (ev_2 : v_2 = p5 k.toNatClampNeg) (c_3 : ¬ v_2 = (-1)) (ev_5 : v_5 = kc + 1) (ev_6 : v_6 = k + 1) : 0 ≤ v_6 := by
  grind
set_option maxHeartbeats 1000000 in
theorem pf_X1_howManyPoured_9 (num : Int32) (p5 : Nat → Int32) (n_4 : Nat) (k : Int32) (kc : Int32) (v_2 : Int32) (v_5 : Int32) (v_6 : Int32) (hn0 : 0 ≤ num) (hn1 : num ≤ 10) (hn_4 : 10 - k.toNatClampNeg < n_4 + 1) (h0k : 0 ≤ k) (hk : k ≤ num) (hkc : kc = cnP p5 k.toNatClampNeg) (c_1 : ¬ num ≤ k) (ev_2 : v_2 = p5 k.toNatClampNeg) (c_3 : ¬ v_2 = (-1)) (ev_5 : v_5 = kc + 1) (ev_6 : v_6 = k + 1) : v_6 ≤ num := by
  grind
set_option maxHeartbeats 1000000 in
theorem pf_X1_howManyPoured_10 (num : Int32) (p5 : Nat → Int32) (n_4 : Nat) (k : Int32) (kc : Int32) (v_2 : Int32) (v_5 : Int32) (v_6 : Int32) (hn0 : 0 ≤ num) (hn1 : num ≤ 10) (hn_4 : 10 - k.toNatClampNeg < n_4 + 1) (h0k : 0 ≤ k) (hk : k ≤ num) (hkc : kc = cnP p5 k.toNatClampNeg) (c_1 : ¬ num ≤ k) (ev_2 : v_2 = p5 k.toNatClampNeg) (c_3 : ¬ v_2 = (-1)) (ev_5 : v_5 = kc + 1) (ev_6 : v_6 = k + 1) : v_5 = cnP p5 v_6.toNatClampNeg := by
  rw [cnP_s (k := k) h0k (by grind) (by assumption), ← hkc]
  grind
set_option maxHeartbeats 1000000 in
theorem pf_X1_howManyPoured_11 (num : Int32) (hn0 : 0 ≤ num) (hn1 : num ≤ 10) : 0 ≤ (0 : Int32) := by
  grind
set_option maxHeartbeats 1000000 in
theorem pf_X1_howManyPoured_12 (num : Int32) (hn0 : 0 ≤ num) (hn1 : num ≤ 10) : (0 : Int32) ≤ num := by
  grind
set_option maxHeartbeats 1000000 in
theorem pf_X1_howManyPoured_13 (num : Int32) (p5 : Nat → Int32) (hn0 : 0 ≤ num) (hn1 : num ≤ 10) : (0 : Int32) = cnP p5 (0 : Int32).toNatClampNeg := by
  rfl
set_option maxHeartbeats 4000000 in
set_option maxRecDepth 100000 in
theorem c_X1_howManyPoured (l : Launch) (D : va_G) (cI cQ : ClassId) (sz : Nat) (h1 : Nat) (k5 : Nat) (k0 : Nat) (k1 : Nat) (k2 : Nat) (k3 : Nat) (k4 : Nat) (k6 : Nat) (k7 : Nat) (num : Int32) (p5 : Nat → Int32) (hn0 : 0 ≤ num) (hn1 : num ≤ 10) : CtI l yX1_howManyPoured wsX1_howManyPoured 0 0 0 0 [.ref h1] D [(cI, .int), (cQ, .array .int)] [(h1, .inr (1, [.ref k0, .ref k1, .ref k2, .ref k3, .ref k4, .ref k5, .ref k6, .ref k7, .int num])), (k5, .inl (cI, 10, .inl p5))] sz (fun (r : Int32) (u : Unit) => r = cnP p5 num.toNatClampNeg) (fun (u : Unit) => [(h1, .inr (1, [.ref k0, .ref k1, .ref k2, .ref k3, .ref k4, .ref k5, .ref k6, .ref k7, .int num])), (k5, .inl (cI, 10, .inl p5))]) := by
  refine Met.ofW (cc := cX1_howManyPoured) (maxL := 3) (ret := (some .int)) (by decide) rfl ?_
  intro p e s m args below meth c s₁ B hml hv
  obtain ⟨rfl, hsz, hP, hK, hD0, hN⟩ := hv
  have hx := B.exec
  have hb := B.bytes
  have hr := B.returns
  have hts := atoms_spec (ws := wsX1_howManyPoured) B.pre
  have hown : s.vm.findClass RX1 = some m.cls := findClass_of_methodNamed B.named
  have hlocks := B.notSynchronized
  subst hsz
  have hD := hD0.self (sz := s.heap.size)
  generalize hAe : va_A [(h1, .inr (1, [.ref k0, .ref k1, .ref k2, .ref k3, .ref k4, .ref k5, .ref k6, .ref k7, .int num])), (k5, .inl (cI, 10, .inl p5))] s.heap.size = A at hD ⊢
  have hA : ∀ q : Nat, s.heap.size ≤ q → A q := fun q h => by rw [← hAe]; exact Or.inr h
  have hS : va_S A s.heap s.heap [] := va_S.rf
  have hl := lv_entry ([.ref h1]) (n := 3) (Nat.le_of_ble_eq_true rfl)
  rw [lg_entry_eq]
  generalize (lg_sl ([.ref h1]) ++ List.replicate (3 - (lg_sl ([.ref h1])).length) Slot.unset).toArray = ls at hl ⊢
  have hl : lv_has ls 3 [(0, .ref h1)] := hl
  refine W_gen (fun GW hIn hOut => ?_)
  refine hIn _ _ _ _ _ ?_
  have hP0 := hP
  refine lv_iconst (v := 0) hx hb dX1_howManyPoured_0 (by decide) ?_
  refine lv_istore_n (lv' := [(1, .int 0), (0, .ref h1)]) hx hb dX1_howManyPoured_1 rfl hl (by decide) rfl (fun ls hl => ?_)
  refine lv_iconst (v := 0) hx hb dX1_howManyPoured_2 (by decide) ?_
  refine lv_istore_n (lv' := [(2, .int 0), (1, .int 0), (0, .ref h1)]) hx hb dX1_howManyPoured_3 rfl hl (by decide) rfl (fun ls hl => ?_)
  have lp_4 : ∀ (n : Nat) (k : Int32) (kc : Int32) (H : Heap) (locs : List Loc) (ls : Array Slot), 10 - k.toNatClampNeg < n → (0 ≤ k) → (k ≤ num) → (kc = cnP p5 k.toNatClampNeg) → va_P D vwCl [(h1, .inr (1, [.ref k0, .ref k1, .ref k2, .ref k3, .ref k4, .ref k5, .ref k6, .ref k7, .int num])), (k5, .inl (cI, 10, .inl p5))] H → va_D A [(h1, .inr (1, [.ref k0, .ref k1, .ref k2, .ref k3, .ref k4, .ref k5, .ref k6, .ref k7, .int num])), (k5, .inl (cI, 10, .inl p5))] → va_S A s.heap H locs → lv_has ls 3 [(0, .ref h1), (1, .int kc), (2, .int k)] → GW H locs 0 0 (F0 m 4 ls []) := by
    intro n_4
    induction n_4 with
    | zero => intro k kc H locs ls hn_4; exact absurd hn_4 (Nat.not_lt_zero _)
    | succ n_4 ih_4 =>
      intro k kc H locs ls hn_4 h0k hk hkc hP hD hS hl
      refine hIn _ _ _ _ _ ?_
      refine lv_iload_n hx hb dX1_howManyPoured_4 rfl (lv_at hl 2 rfl) ?_
      refine lv_aload_n hx hb dX1_howManyPoured_5 rfl (lv_at hl 0 rfl) ?_
      refine va_get (D := D) (ci := 1) (v := .int num) (C := RX1) (T := TX1) (N := 9) hx hb hts iw_X1_howManyPoured_1 hown hK hP 0 rfl rfl 8 (by decide) (hts _ wd_X1_howManyPoured_1) (fun _ h9 => h9) rfl dX1_howManyPoured_6 ?_
      refine lv_icmp_ge (tgt := 31) hx hb dX1_howManyPoured_9 (by decide) (fun c_1 => ?_) (fun c_1 => ?_)
      · refine lv_iload_n hx hb dX1_howManyPoured_31 rfl (lv_at hl 1 rfl) ?_
        refine W.widen (k := 0) (n := 0) (Nat.le_of_ble_eq_true rfl) (Nat.le_of_ble_eq_true rfl) ?_
        exact fi_i () hx hb hr hlocks hK (hP.sub [0, 1] rfl) (hD.sub [0, 1] (by decide) rfl) hS (pf_X1_howManyPoured_1 num p5 n_4 k kc hn0 hn1 hn_4 h0k hk hkc c_1) dX1_howManyPoured_32
      · refine lv_aload_n hx hb dX1_howManyPoured_12 rfl (lv_at hl 0 rfl) ?_
        refine va_get (D := D) (ci := 1) (v := .ref k5) (C := RX1) (T := TX1) (N := 9) hx hb hts iw_X1_howManyPoured_1 hown hK hP 0 rfl rfl 5 (by decide) (hts _ wd_X1_howManyPoured_2) (fun _ h9 => h9) rfl dX1_howManyPoured_13 ?_
        refine lv_iload_n hx hb dX1_howManyPoured_16 rfl (lv_at hl 2 rfl) ?_
        refine va_iald hx hb hK hP 1 0 rfl rfl (pf_X1_howManyPoured_2 num p5 n_4 k kc hn0 hn1 hn_4 h0k hk hkc c_1) dX1_howManyPoured_17 ?_
        refine lv_topi (fun v_2 ev_2 => ?_)
        refine lv_iconst (v := (-1)) hx hb dX1_howManyPoured_18 (by decide) ?_
        refine lv_icmp_eq (tgt := 25) hx hb dX1_howManyPoured_19 (by decide) (fun c_3 => ?_) (fun c_3 => ?_)
        · obtain ⟨v_4, ev_4⟩ : ∃ y : Int32, y = k + 1 := ⟨_, rfl⟩
          refine lv_iinc (v := v_4) (lv' := [(2, .int v_4), (0, .ref h1), (1, .int kc)]) hx hb dX1_howManyPoured_25 hl (k := 2) rfl (by rw [ev_4]; rfl) (by decide) rfl (fun ls hl => ?_)
          refine lv_goto (tgt := 4) hx hb dX1_howManyPoured_28 (by decide) ?_
          exact hOut _ _ _ _ _ (ih_4 v_4 kc _ _ _ (pf_X1_howManyPoured_3 num p5 n_4 k kc v_2 v_4 hn0 hn1 hn_4 h0k hk hkc c_1 ev_2 c_3 ev_4) (pf_X1_howManyPoured_4 num p5 n_4 k kc v_2 v_4 hn0 hn1 hn_4 h0k hk hkc c_1 ev_2 c_3 ev_4) (pf_X1_howManyPoured_5 num p5 n_4 k kc v_2 v_4 hn0 hn1 hn_4 h0k hk hkc c_1 ev_2 c_3 ev_4) (pf_X1_howManyPoured_6 num p5 n_4 k kc v_2 v_4 hn0 hn1 hn_4 h0k hk hkc c_1 ev_2 c_3 ev_4) (hP.sub [0, 1] rfl) (hD.sub [0, 1] (by decide) rfl) hS (lv_sub hl [1, 2, 0] rfl))
        · obtain ⟨v_5, ev_5⟩ : ∃ y : Int32, y = kc + 1 := ⟨_, rfl⟩
          refine lv_iinc (v := v_5) (lv' := [(1, .int v_5), (0, .ref h1), (2, .int k)]) hx hb dX1_howManyPoured_22 hl (k := 1) rfl (by rw [ev_5]; rfl) (by decide) rfl (fun ls hl => ?_)
          obtain ⟨v_6, ev_6⟩ : ∃ y : Int32, y = k + 1 := ⟨_, rfl⟩
          refine lv_iinc (v := v_6) (lv' := [(2, .int v_6), (1, .int v_5), (0, .ref h1)]) hx hb dX1_howManyPoured_25 hl (k := 2) rfl (by rw [ev_6]; rfl) (by decide) rfl (fun ls hl => ?_)
          refine lv_goto (tgt := 4) hx hb dX1_howManyPoured_28 (by decide) ?_
          exact hOut _ _ _ _ _ (ih_4 v_6 v_5 _ _ _ (pf_X1_howManyPoured_7 num p5 n_4 k kc v_2 v_5 v_6 hn0 hn1 hn_4 h0k hk hkc c_1 ev_2 c_3 ev_5 ev_6) (pf_X1_howManyPoured_8 num p5 n_4 k kc v_2 v_5 v_6 hn0 hn1 hn_4 h0k hk hkc c_1 ev_2 c_3 ev_5 ev_6) (pf_X1_howManyPoured_9 num p5 n_4 k kc v_2 v_5 v_6 hn0 hn1 hn_4 h0k hk hkc c_1 ev_2 c_3 ev_5 ev_6) (pf_X1_howManyPoured_10 num p5 n_4 k kc v_2 v_5 v_6 hn0 hn1 hn_4 h0k hk hkc c_1 ev_2 c_3 ev_5 ev_6) (hP.sub [0, 1] rfl) (hD.sub [0, 1] (by decide) rfl) hS (lv_sub hl [2, 1, 0] rfl))
  exact hOut _ _ _ _ _ (lp_4 (10 - (0 : Int32).toNatClampNeg + 1) 0 0 _ _ _ (Nat.lt_succ_self _) (pf_X1_howManyPoured_11 num hn0 hn1) (pf_X1_howManyPoured_12 num hn0 hn1) (pf_X1_howManyPoured_13 num p5 hn0 hn1) (hP.sub [0, 1] rfl) (hD.sub [0, 1] (by decide) rfl) hS (lv_sub hl [2, 1, 0] rfl))

theorem iw_X1_lengthenWays_1 : ∀ w ∈ wsX10, w ∈ wsX1_lengthenWays := fun w h => (List.mem_cons_of_mem _ (List.mem_append_right _ h))
theorem wd_X1_lengthenWays_1 : (.fieldLink RX1 38 "PourPlan$Pieces" "number" "I" : Cond) ∈ wsX1_lengthenWays := List.mem_of_getElem? (i := 1) rfl
theorem wd_X1_lengthenWays_2 : (.fieldLink RX1 35 "PourPlan$Pieces" "ways" "[I" : Cond) ∈ wsX1_lengthenWays := List.mem_of_getElem? (i := 2) rfl
theorem wd_X1_lengthenWays_3 : (.fieldLink RX1 32 "PourPlan$Pieces" "lead" "[[I" : Cond) ∈ wsX1_lengthenWays := List.mem_of_getElem? (i := 3) rfl
theorem wd_X1_lengthenWays_4 : (.methodLink RX1 45 Lib.Math.max.name : Cond) ∈ wsX1_lengthenWays := List.mem_of_getElem? (i := 4) rfl
theorem wd_X1_lengthenWays_5 : (.static Lib.Math.max.name : Cond) ∈ wsX1_lengthenWays := List.mem_of_getElem? (i := 5) rfl
theorem wd_X1_lengthenWays_6 : (.initialized "java/lang/Math" : Cond) ∈ wsX1_lengthenWays := List.mem_of_getElem? (i := 6) rfl
theorem wd_X1_lengthenWays_7 : (.code Lib.Math.max.name Lib.Math.max.code 2 (some .int) : Cond) ∈ wsX1_lengthenWays := List.mem_of_getElem? (i := 7) rfl
set_option maxHeartbeats 1000000 in
theorem pf_X1_lengthenWays_1 (num : Int32) (p7 : Nat → Int32) (M : Nat → Nat → Int32) (n_2 : Nat) (j1 : Int32) (pw : Nat → Int32) (hn0 : 0 ≤ num) (hn1 : num ≤ 10) (hn_2 : 10 - j1.toNatClampNeg < n_2 + 1) (h0j1 : 0 ≤ j1) (hj1 : 1 ≤ j1) (hj1b : j1 ≤ num ∨ j1 = 1) (hp1 : pw = r3 M num.toNatClampNeg p7 (j1.toNatClampNeg - 1)) (c_1 : num ≤ j1) : pw = r3 M num.toNatClampNeg p7 (num.toNatClampNeg - 1) := by
  rw [hp1, rnd_e hn0 (by assumption) hj1b]
set_option maxHeartbeats 1000000 in
theorem pf_X1_lengthenWays_2 (num : Int32) (p7 : Nat → Int32) (M : Nat → Nat → Int32) (n_2 : Nat) (j1 : Int32) (pw : Nat → Int32) (n_12 : Nat) (j2 : Int32) (pw2 : Nat → Int32) (v_3 : Int32) (hn0 : 0 ≤ num) (hn1 : num ≤ 10) (hn_2 : 10 - j1.toNatClampNeg < n_2 + 1) (h0j1 : 0 ≤ j1) (hj1 : 1 ≤ j1) (hj1b : j1 ≤ num ∨ j1 = 1) (hp1 : pw = r3 M num.toNatClampNeg p7 (j1.toNatClampNeg - 1)) (c_1 : ¬ num ≤ j1) (hn_12 : 10 - j2.toNatClampNeg < n_12 + 1) (h0j2 : 0 ≤ j2) (hj2 : j2 ≤ num) (hp2 : pw2 = r2 M num.toNatClampNeg pw j2.toNatClampNeg) (c_2 : num ≤ j2) (ev_3 : v_3 = j1 + 1) : 10 - v_3.toNatClampNeg < n_2 := by
  exact ms_dec (L := 10) (k := j1) (by grind) (show ¬ (10 : Int32) ≤ j1 by grind) (by omega) (by assumption) hn_2
set_option maxHeartbeats 1000000 in
theorem pf_X1_lengthenWays_3 (num : Int32) (p7 : Nat → Int32) (M : Nat → Nat → Int32) (n_2 : Nat) (j1 : Int32) (pw : Nat → Int32) (n_12 : Nat) (j2 : Int32) (pw2 : Nat → Int32) (v_3 : Int32) (hn0 : 0 ≤ num) (hn1 : num ≤ 10) (hn_2 : 10 - j1.toNatClampNeg < n_2 + 1) (h0j1 : 0 ≤ j1) (hj1 : 1 ≤ j1) (hj1b : j1 ≤ num ∨ j1 = 1) (hp1 : pw = r3 M num.toNatClampNeg p7 (j1.toNatClampNeg - 1)) (c_1 : ¬ num ≤ j1) (hn_12 : 10 - j2.toNatClampNeg < n_12 + 1) (h0j2 : 0 ≤ j2) (hj2 : j2 ≤ num) (hp2 : pw2 = r2 M num.toNatClampNeg pw j2.toNatClampNeg) (c_2 : num ≤ j2) (ev_3 : v_3 = j1 + 1) : 0 ≤ v_3 := by
  grind
set_option maxHeartbeats 1000000 in
theorem pf_X1_lengthenWays_4 (num : Int32) (p7 : Nat → Int32) (M : Nat → Nat → Int32) (n_2 : Nat) (j1 : Int32) (pw : Nat → Int32) (n_12 : Nat) (j2 : Int32) (pw2 : Nat → Int32) (v_3 : Int32) (hn0 : 0 ≤ num) (hn1 : num ≤ 10) (hn_2 : 10 - j1.toNatClampNeg < n_2 + 1) (h0j1 : 0 ≤ j1) (hj1 : 1 ≤ j1) (hj1b : j1 ≤ num ∨ j1 = 1) (hp1 : pw = r3 M num.toNatClampNeg p7 (j1.toNatClampNeg - 1)) (c_1 : ¬ num ≤ j1) (hn_12 : 10 - j2.toNatClampNeg < n_12 + 1) (h0j2 : 0 ≤ j2) (hj2 : j2 ≤ num) (hp2 : pw2 = r2 M num.toNatClampNeg pw j2.toNatClampNeg) (c_2 : num ≤ j2) (ev_3 : v_3 = j1 + 1) : 1 ≤ v_3 := by
  grind
set_option maxHeartbeats 1000000 in
theorem pf_X1_lengthenWays_5 (num : Int32) (p7 : Nat → Int32) (M : Nat → Nat → Int32) (n_2 : Nat) (j1 : Int32) (pw : Nat → Int32) (n_12 : Nat) (j2 : Int32) (pw2 : Nat → Int32) (v_3 : Int32) (hn0 : 0 ≤ num) (hn1 : num ≤ 10) (hn_2 : 10 - j1.toNatClampNeg < n_2 + 1) (h0j1 : 0 ≤ j1) (hj1 : 1 ≤ j1) (hj1b : j1 ≤ num ∨ j1 = 1) (hp1 : pw = r3 M num.toNatClampNeg p7 (j1.toNatClampNeg - 1)) (c_1 : ¬ num ≤ j1) (hn_12 : 10 - j2.toNatClampNeg < n_12 + 1) (h0j2 : 0 ≤ j2) (hj2 : j2 ≤ num) (hp2 : pw2 = r2 M num.toNatClampNeg pw j2.toNatClampNeg) (c_2 : num ≤ j2) (ev_3 : v_3 = j1 + 1) : v_3 ≤ num ∨ v_3 = 1 := by
  grind
set_option maxHeartbeats 1000000 in
theorem pf_X1_lengthenWays_6 (num : Int32) (p7 : Nat → Int32) (M : Nat → Nat → Int32) (n_2 : Nat) (j1 : Int32) (pw : Nat → Int32) (n_12 : Nat) (j2 : Int32) (pw2 : Nat → Int32) (v_3 : Int32) (hn0 : 0 ≤ num) (hn1 : num ≤ 10) (hn_2 : 10 - j1.toNatClampNeg < n_2 + 1) (h0j1 : 0 ≤ j1) (hj1 : 1 ≤ j1) (hj1b : j1 ≤ num ∨ j1 = 1) (hp1 : pw = r3 M num.toNatClampNeg p7 (j1.toNatClampNeg - 1)) (c_1 : ¬ num ≤ j1) (hn_12 : 10 - j2.toNatClampNeg < n_12 + 1) (h0j2 : 0 ≤ j2) (hj2 : j2 ≤ num) (hp2 : pw2 = r2 M num.toNatClampNeg pw j2.toNatClampNeg) (c_2 : num ≤ j2) (ev_3 : v_3 = j1 + 1) : pw2 = r3 M num.toNatClampNeg p7 (v_3.toNatClampNeg - 1) := by
  have e9 : j2 = num := by grind
  rw [r3_n hj1 (by grind) (by assumption), ← hp1, hp2, e9]
set_option maxHeartbeats 1000000 in
theorem pf_X1_lengthenWays_7 (num : Int32) (p7 : Nat → Int32) (M : Nat → Nat → Int32) (n_2 : Nat) (j1 : Int32) (pw : Nat → Int32) (n_12 : Nat) (j2 : Int32) (pw2 : Nat → Int32) (n_22 : Nat) (j3 : Int32) (pw3 : Nat → Int32) (v_5 : Int32) (hn0 : 0 ≤ num) (hn1 : num ≤ 10) (hn_2 : 10 - j1.toNatClampNeg < n_2 + 1) (h0j1 : 0 ≤ j1) (hj1 : 1 ≤ j1) (hj1b : j1 ≤ num ∨ j1 = 1) (hp1 : pw = r3 M num.toNatClampNeg p7 (j1.toNatClampNeg - 1)) (c_1 : ¬ num ≤ j1) (hn_12 : 10 - j2.toNatClampNeg < n_12 + 1) (h0j2 : 0 ≤ j2) (hj2 : j2 ≤ num) (hp2 : pw2 = r2 M num.toNatClampNeg pw j2.toNatClampNeg) (c_2 : ¬ num ≤ j2) (hn_22 : 10 - j3.toNatClampNeg < n_22 + 1) (h0j3 : 0 ≤ j3) (hj3 : j3 ≤ num) (hp3 : pw3 = r1 M j2.toNatClampNeg pw2 j3.toNatClampNeg) (c_4 : num ≤ j3) (ev_5 : v_5 = j2 + 1) : 10 - v_5.toNatClampNeg < n_12 := by
  exact ms_dec (L := 10) (k := j2) (by grind) (show ¬ (10 : Int32) ≤ j2 by grind) (by omega) (by assumption) hn_12
set_option maxHeartbeats 1000000 in
theorem pf_X1_lengthenWays_8 (num : Int32) (p7 : Nat → Int32) (M : Nat → Nat → Int32) (n_2 : Nat) (j1 : Int32) (pw : Nat → Int32) (n_12 : Nat) (j2 : Int32) (pw2 : Nat → Int32) (n_22 : Nat) (j3 : Int32) (pw3 : Nat → Int32) (v_5 : Int32) (hn0 : 0 ≤ num) (hn1 : num ≤ 10) (hn_2 : 10 - j1.toNatClampNeg < n_2 + 1) (h0j1 : 0 ≤ j1) (hj1 : 1 ≤ j1) (hj1b : j1 ≤ num ∨ j1 = 1) (hp1 : pw = r3 M num.toNatClampNeg p7 (j1.toNatClampNeg - 1)) (c_1 : ¬ num ≤ j1) (hn_12 : 10 - j2.toNatClampNeg < n_12 + 1) (h0j2 : 0 ≤ j2) (hj2 : j2 ≤ num) (hp2 : pw2 = r2 M num.toNatClampNeg pw j2.toNatClampNeg) (c_2 : ¬ num ≤ j2) (hn_22 : 10 - j3.toNatClampNeg < n_22 + 1) (h0j3 : 0 ≤ j3) (hj3 : j3 ≤ num) (hp3 : pw3 = r1 M j2.toNatClampNeg pw2 j3.toNatClampNeg) (c_4 : num ≤ j3) (ev_5 : v_5 = j2 + 1) : 0 ≤ v_5 := by
  grind
set_option maxHeartbeats 1000000 in
theorem pf_X1_lengthenWays_9 (num : Int32) (p7 : Nat → Int32) (M : Nat → Nat → Int32) (n_2 : Nat) (j1 : Int32) (pw : Nat → Int32) (n_12 : Nat) (j2 : Int32) (pw2 : Nat → Int32) (n_22 : Nat) (j3 : Int32) (pw3 : Nat → Int32) (v_5 : Int32) (hn0 : 0 ≤ num) (hn1 : num ≤ 10) (hn_2 : 10 - j1.toNatClampNeg < n_2 + 1) (h0j1 : 0 ≤ j1) (hj1 : 1 ≤ j1) (hj1b : j1 ≤ num ∨ j1 = 1) (hp1 : pw = r3 M num.toNatClampNeg p7 (j1.toNatClampNeg - 1)) (c_1 : ¬ num ≤ j1) (hn_12 : 10 - j2.toNatClampNeg < n_12 + 1) (h0j2 : 0 ≤ j2) (hj2 : j2 ≤ num) (hp2 : pw2 = r2 M num.toNatClampNeg pw j2.toNatClampNeg) (c_2 : ¬ num ≤ j2) (hn_22 : 10 - j3.toNatClampNeg < n_22 + 1) (h0j3 : 0 ≤ j3) (hj3 : j3 ≤ num) (hp3 : pw3 = r1 M j2.toNatClampNeg pw2 j3.toNatClampNeg) (c_4 : num ≤ j3) (ev_5 : v_5 = j2 + 1) : v_5 ≤ num := by
  grind
set_option maxHeartbeats 1000000 in
theorem pf_X1_lengthenWays_10 (num : Int32) (p7 : Nat → Int32) (M : Nat → Nat → Int32) (n_2 : Nat) (j1 : Int32) (pw : Nat → Int32) (n_12 : Nat) (j2 : Int32) (pw2 : Nat → Int32) (n_22 : Nat) (j3 : Int32) (pw3 : Nat → Int32) (v_5 : Int32) (hn0 : 0 ≤ num) (hn1 : num ≤ 10) (hn_2 : 10 - j1.toNatClampNeg < n_2 + 1) (h0j1 : 0 ≤ j1) (hj1 : 1 ≤ j1) (hj1b : j1 ≤ num ∨ j1 = 1) (hp1 : pw = r3 M num.toNatClampNeg p7 (j1.toNatClampNeg - 1)) (c_1 : ¬ num ≤ j1) (hn_12 : 10 - j2.toNatClampNeg < n_12 + 1) (h0j2 : 0 ≤ j2) (hj2 : j2 ≤ num) (hp2 : pw2 = r2 M num.toNatClampNeg pw j2.toNatClampNeg) (c_2 : ¬ num ≤ j2) (hn_22 : 10 - j3.toNatClampNeg < n_22 + 1) (h0j3 : 0 ≤ j3) (hj3 : j3 ≤ num) (hp3 : pw3 = r1 M j2.toNatClampNeg pw2 j3.toNatClampNeg) (c_4 : num ≤ j3) (ev_5 : v_5 = j2 + 1) : pw3 = r2 M num.toNatClampNeg pw v_5.toNatClampNeg := by
  have e9 : j3 = num := by grind
  rw [r2_s (k := j2) h0j2 (by grind) (by assumption), ← hp2, hp3, e9]
set_option maxHeartbeats 1000000 in
theorem pf_X1_lengthenWays_11 (num : Int32) (p7 : Nat → Int32) (M : Nat → Nat → Int32) (n_2 : Nat) (j1 : Int32) (pw : Nat → Int32) (n_12 : Nat) (j2 : Int32) (pw2 : Nat → Int32) (n_22 : Nat) (j3 : Int32) (pw3 : Nat → Int32) (hn0 : 0 ≤ num) (hn1 : num ≤ 10) (hn_2 : 10 - j1.toNatClampNeg < n_2 + 1) (h0j1 : 0 ≤ j1) (hj1 : 1 ≤ j1) (hj1b : j1 ≤ num ∨ j1 = 1) (hp1 : pw = r3 M num.toNatClampNeg p7 (j1.toNatClampNeg - 1)) (c_1 : ¬ num ≤ j1) (hn_12 : 10 - j2.toNatClampNeg < n_12 + 1) (h0j2 : 0 ≤ j2) (hj2 : j2 ≤ num) (hp2 : pw2 = r2 M num.toNatClampNeg pw j2.toNatClampNeg) (c_2 : ¬ num ≤ j2) (hn_22 : 10 - j3.toNatClampNeg < n_22 + 1) (h0j3 : 0 ≤ j3) (hj3 : j3 ≤ num) (hp3 : pw3 = r1 M j2.toNatClampNeg pw2 j3.toNatClampNeg) (c_4 : ¬ num ≤ j3) : vp_in j2 10 := by
  exact vi_in (M := 10) rfl (by grind) (by grind)
set_option maxHeartbeats 1000000 in
theorem pf_X1_lengthenWays_12 (num : Int32) (p7 : Nat → Int32) (M : Nat → Nat → Int32) (n_2 : Nat) (j1 : Int32) (pw : Nat → Int32) (n_12 : Nat) (j2 : Int32) (pw2 : Nat → Int32) (n_22 : Nat) (j3 : Int32) (pw3 : Nat → Int32) (v_6 : Int32) (v_8 : Int32) (hn0 : 0 ≤ num) (hn1 : num ≤ 10) (hn_2 : 10 - j1.toNatClampNeg < n_2 + 1) (h0j1 : 0 ≤ j1) (hj1 : 1 ≤ j1) (hj1b : j1 ≤ num ∨ j1 = 1) (hp1 : pw = r3 M num.toNatClampNeg p7 (j1.toNatClampNeg - 1)) (c_1 : ¬ num ≤ j1) (hn_12 : 10 - j2.toNatClampNeg < n_12 + 1) (h0j2 : 0 ≤ j2) (hj2 : j2 ≤ num) (hp2 : pw2 = r2 M num.toNatClampNeg pw j2.toNatClampNeg) (c_2 : ¬ num ≤ j2) (hn_22 : 10 - j3.toNatClampNeg < n_22 + 1) (h0j3 : 0 ≤ j3) (hj3 : j3 ≤ num) (hp3 : pw3 = r1 M j2.toNatClampNeg pw2 j3.toNatClampNeg) (c_4 : ¬ num ≤ j3) (ev_6 : v_6 = pw3 j2.toNatClampNeg) (c_7 : v_6 = (-1)) (ev_8 : v_8 = j3 + 1) : 10 - v_8.toNatClampNeg < n_22 := by
  exact ms_dec (L := 10) (k := j3) (by grind) (show ¬ (10 : Int32) ≤ j3 by grind) (by omega) (by assumption) hn_22
set_option maxHeartbeats 1000000 in
theorem pf_X1_lengthenWays_13 (num : Int32) (p7 : Nat → Int32) (M : Nat → Nat → Int32) (n_2 : Nat) (j1 : Int32) (pw : Nat → Int32) (n_12 : Nat) (j2 : Int32) (pw2 : Nat → Int32) (n_22 : Nat) (j3 : Int32) (pw3 : Nat → Int32) (v_6 : Int32) (v_8 : Int32) (hn0 : 0 ≤ num) (hn1 : num ≤ 10) (hn_2 : 10 - j1.toNatClampNeg < n_2 + 1) (h0j1 : 0 ≤ j1) (hj1 : 1 ≤ j1) (hj1b : j1 ≤ num ∨ j1 = 1) (hp1 : pw = r3 M num.toNatClampNeg p7 (j1.toNatClampNeg - 1)) (c_1 : ¬ num ≤ j1) (hn_12 : 10 - j2.toNatClampNeg < n_12 + 1) (h0j2 : 0 ≤ j2) (hj2 : j2 ≤ num) (hp2 : pw2 = r2 M num.toNatClampNeg pw j2.toNatClampNeg) (c_2 : ¬ num ≤ j2) (hn_22 : 10 - j3.toNatClampNeg < n_22 + 1) (h0j3 : 0 ≤ j3) (hj3 : j3 ≤ num) (hp3 : pw3 = r1 M j2.toNatClampNeg pw2 j3.toNatClampNeg) (c_4 : ¬ num ≤ j3) (ev_6 : v_6 = pw3 j2.toNatClampNeg) (c_7 : v_6 = (-1)) (ev_8 : v_8 = j3 + 1) : 0 ≤ v_8 := by
  grind
set_option maxHeartbeats 1000000 in
theorem pf_X1_lengthenWays_14 (num : Int32) (p7 : Nat → Int32) (M : Nat → Nat → Int32) (n_2 : Nat) (j1 : Int32) (pw : Nat → Int32) (n_12 : Nat) (j2 : Int32) (pw2 : Nat → Int32) (n_22 : Nat) (j3 : Int32) (pw3 : Nat → Int32) (v_6 : Int32) (v_8 : Int32) (hn0 : 0 ≤ num) (hn1 : num ≤ 10) (hn_2 : 10 - j1.toNatClampNeg < n_2 + 1) (h0j1 : 0 ≤ j1) (hj1 : 1 ≤ j1) (hj1b : j1 ≤ num ∨ j1 = 1) (hp1 : pw = r3 M num.toNatClampNeg p7 (j1.toNatClampNeg - 1)) (c_1 : ¬ num ≤ j1) (hn_12 : 10 - j2.toNatClampNeg < n_12 + 1) (h0j2 : 0 ≤ j2) (hj2 : j2 ≤ num) (hp2 : pw2 = r2 M num.toNatClampNeg pw j2.toNatClampNeg) (c_2 : ¬ num ≤ j2) (hn_22 : 10 - j3.toNatClampNeg < n_22 + 1) (h0j3 : 0 ≤ j3) (hj3 : j3 ≤ num) (hp3 : pw3 = r1 M j2.toNatClampNeg pw2 j3.toNatClampNeg) (c_4 : ¬ num ≤ j3) (ev_6 : v_6 = pw3 j2.toNatClampNeg) (c_7 : v_6 = (-1)) (ev_8 : v_8 = j3 + 1) : v_8 ≤ num := by
  grind
set_option maxHeartbeats 1000000 in
theorem pf_X1_lengthenWays_15 (num : Int32) (p7 : Nat → Int32) (M : Nat → Nat → Int32) (n_2 : Nat) (j1 : Int32) (pw : Nat → Int32) (n_12 : Nat) (j2 : Int32) (pw2 : Nat → Int32) (n_22 : Nat) (j3 : Int32) (pw3 : Nat → Int32) (v_6 : Int32) (v_8 : Int32) (hn0 : 0 ≤ num) (hn1 : num ≤ 10) (hn_2 : 10 - j1.toNatClampNeg < n_2 + 1) (h0j1 : 0 ≤ j1) (hj1 : 1 ≤ j1) (hj1b : j1 ≤ num ∨ j1 = 1) (hp1 : pw = r3 M num.toNatClampNeg p7 (j1.toNatClampNeg - 1)) (c_1 : ¬ num ≤ j1) (hn_12 : 10 - j2.toNatClampNeg < n_12 + 1) (h0j2 : 0 ≤ j2) (hj2 : j2 ≤ num) (hp2 : pw2 = r2 M num.toNatClampNeg pw j2.toNatClampNeg) (c_2 : ¬ num ≤ j2) (hn_22 : 10 - j3.toNatClampNeg < n_22 + 1) (h0j3 : 0 ≤ j3) (hj3 : j3 ≤ num) (hp3 : pw3 = r1 M j2.toNatClampNeg pw2 j3.toNatClampNeg) (c_4 : ¬ num ≤ j3) (ev_6 : v_6 = pw3 j2.toNatClampNeg) (c_7 : v_6 = (-1)) (ev_8 : v_8 = j3 + 1) : pw3 = r1 M j2.toNatClampNeg pw2 v_8.toNatClampNeg := by
  rw [r1_s (k := j3) h0j3 (by grind) (by assumption), ← hp3]
  first
  | (rw [if_neg (by grind)])
  | (rw [if_pos ⟨by grind, by grind⟩]
     grind [mx])
set_option maxHeartbeats 1000000 in
theorem pf_X1_lengthenWays_16 (num : Int32) (p7 : Nat → Int32) (M : Nat → Nat → Int32) (n_2 : Nat) (j1 : Int32) (pw : Nat → Int32) (n_12 : Nat) (j2 : Int32) (pw2 : Nat → Int32) (n_22 : Nat) (j3 : Int32) (pw3 : Nat → Int32) (v_6 : Int32) (hn0 : 0 ≤ num) (hn1 : num ≤ 10) (hn_2 : 10 - j1.toNatClampNeg < n_2 + 1) (h0j1 : 0 ≤ j1) (hj1 : 1 ≤ j1) (hj1b : j1 ≤ num ∨ j1 = 1) (hp1 : pw = r3 M num.toNatClampNeg p7 (j1.toNatClampNeg - 1)) (c_1 : ¬ num ≤ j1) (hn_12 : 10 - j2.toNatClampNeg < n_12 + 1) (h0j2 : 0 ≤ j2) (hj2 : j2 ≤ num) (hp2 : pw2 = r2 M num.toNatClampNeg pw j2.toNatClampNeg) (c_2 : ¬ num ≤ j2) (hn_22 : 10 - j3.toNatClampNeg < n_22 + 1) (h0j3 : 0 ≤ j3) (hj3 : j3 ≤ num) (hp3 : pw3 = r1 M j2.toNatClampNeg pw2 j3.toNatClampNeg) (c_4 : ¬ num ≤ j3) (ev_6 : v_6 = pw3 j2.toNatClampNeg) (c_7 : ¬ v_6 = (-1)) : vp_in j2 10 := by
  exact vi_in (M := 10) rfl (by grind) (by grind)
set_option maxHeartbeats 1000000 in
theorem pf_X1_lengthenWays_17 (num : Int32) (p7 : Nat → Int32) (M : Nat → Nat → Int32) (n_2 : Nat) (j1 : Int32) (pw : Nat → Int32) (n_12 : Nat) (j2 : Int32) (pw2 : Nat → Int32) (n_22 : Nat) (j3 : Int32) (pw3 : Nat → Int32) (v_6 : Int32) (hn0 : 0 ≤ num) (hn1 : num ≤ 10) (hn_2 : 10 - j1.toNatClampNeg < n_2 + 1) (h0j1 : 0 ≤ j1) (hj1 : 1 ≤ j1) (hj1b : j1 ≤ num ∨ j1 = 1) (hp1 : pw = r3 M num.toNatClampNeg p7 (j1.toNatClampNeg - 1)) (c_1 : ¬ num ≤ j1) (hn_12 : 10 - j2.toNatClampNeg < n_12 + 1) (h0j2 : 0 ≤ j2) (hj2 : j2 ≤ num) (hp2 : pw2 = r2 M num.toNatClampNeg pw j2.toNatClampNeg) (c_2 : ¬ num ≤ j2) (hn_22 : 10 - j3.toNatClampNeg < n_22 + 1) (h0j3 : 0 ≤ j3) (hj3 : j3 ≤ num) (hp3 : pw3 = r1 M j2.toNatClampNeg pw2 j3.toNatClampNeg) (c_4 : ¬ num ≤ j3) (ev_6 : v_6 = pw3 j2.toNatClampNeg) (c_7 : ¬ v_6 = (-1)) : j2.toNatClampNeg < 10 := by
  refine cl_lt (n := 10) ?_
  exact vi_in (M := 10) rfl (by grind) (by grind)
set_option maxHeartbeats 1000000 in
theorem pf_X1_lengthenWays_18 (num : Int32) (p7 : Nat → Int32) (M : Nat → Nat → Int32) (n_2 : Nat) (j1 : Int32) (pw : Nat → Int32) (n_12 : Nat) (j2 : Int32) (pw2 : Nat → Int32) (n_22 : Nat) (j3 : Int32) (pw3 : Nat → Int32) (v_6 : Int32) (hn0 : 0 ≤ num) (hn1 : num ≤ 10) (hn_2 : 10 - j1.toNatClampNeg < n_2 + 1) (h0j1 : 0 ≤ j1) (hj1 : 1 ≤ j1) (hj1b : j1 ≤ num ∨ j1 = 1) (hp1 : pw = r3 M num.toNatClampNeg p7 (j1.toNatClampNeg - 1)) (c_1 : ¬ num ≤ j1) (hn_12 : 10 - j2.toNatClampNeg < n_12 + 1) (h0j2 : 0 ≤ j2) (hj2 : j2 ≤ num) (hp2 : pw2 = r2 M num.toNatClampNeg pw j2.toNatClampNeg) (c_2 : ¬ num ≤ j2) (hn_22 : 10 - j3.toNatClampNeg < n_22 + 1) (h0j3 : 0 ≤ j3) (hj3 : j3 ≤ num) (hp3 : pw3 = r1 M j2.toNatClampNeg pw2 j3.toNatClampNeg) (c_4 : ¬ num ≤ j3) (ev_6 : v_6 = pw3 j2.toNatClampNeg) (c_7 : ¬ v_6 = (-1)) : vp_in j3 10 := by
  exact vi_in (M := 10) rfl (by grind) (by grind)
set_option maxHeartbeats 1000000 in
theorem pf_X1_lengthenWays_19 (num : Int32) (p7 : Nat → Int32) (M : Nat → Nat → Int32) (n_2 : Nat) (j1 : Int32) (pw : Nat → Int32) (n_12 : Nat) (j2 : Int32) (pw2 : Nat → Int32) (n_22 : Nat) (j3 : Int32) (pw3 : Nat → Int32) (v_6 : Int32) (v_9 : Int32) (v_11 : Int32) (hn0 : 0 ≤ num) (hn1 : num ≤ 10) (hn_2 : 10 - j1.toNatClampNeg < n_2 + 1) (h0j1 : 0 ≤ j1) (hj1 : 1 ≤ j1) (hj1b : j1 ≤ num ∨ j1 = 1) (hp1 : pw = r3 M num.toNatClampNeg p7 (j1.toNatClampNeg - 1)) (c_1 : ¬ num ≤ j1) (hn_12 : 10 - j2.toNatClampNeg < n_12 + 1) (h0j2 : 0 ≤ j2) (hj2 : j2 ≤ num) (hp2 : pw2 = r2 M num.toNatClampNeg pw j2.toNatClampNeg) (c_2 : ¬ num ≤ j2) (hn_22 : 10 - j3.toNatClampNeg < n_22 + 1) (h0j3 : 0 ≤ j3) (hj3 : j3 ≤ num) (hp3 : pw3 = r1 M j2.toNatClampNeg pw2 j3.toNatClampNeg) (c_4 : ¬ num ≤ j3) (ev_6 : v_6 = pw3 j2.toNatClampNeg) (c_7 : ¬ v_6 = (-1)) (ev_9 : v_9 = M j2.toNatClampNeg j3.toNatClampNeg) (c_10 : v_9 = (-1)) (ev_11 : v_11 = j3 + 1) : 10 - v_11.toNatClampNeg < n_22 := by
  exact ms_dec (L := 10) (k := j3) (by grind) (show ¬ (10 : Int32) ≤ j3 by grind) (by omega) (by assumption) hn_22
set_option maxHeartbeats 1000000 in
theorem pf_X1_lengthenWays_20 (num : Int32) (p7 : Nat → Int32) (M : Nat → Nat → Int32) (n_2 : Nat) (j1 : Int32) (pw : Nat → Int32) (n_12 : Nat) (j2 : Int32) (pw2 : Nat → Int32) (n_22 : Nat) (j3 : Int32) (pw3 : Nat → Int32) (v_6 : Int32) (v_9 : Int32) (v_11 : Int32) (hn0 : 0 ≤ num) (hn1 : num ≤ 10) (hn_2 : 10 - j1.toNatClampNeg < n_2 + 1) (h0j1 : 0 ≤ j1) (hj1 : 1 ≤ j1) (hj1b : j1 ≤ num ∨ j1 = 1) (hp1 : pw = r3 M num.toNatClampNeg p7 (j1.toNatClampNeg - 1)) (c_1 : ¬ num ≤ j1) (hn_12 : 10 - j2.toNatClampNeg < n_12 + 1) (h0j2 : 0 ≤ j2) (hj2 : j2 ≤ num) (hp2 : pw2 = r2 M num.toNatClampNeg pw j2.toNatClampNeg) (c_2 : ¬ num ≤ j2) (hn_22 : 10 - j3.toNatClampNeg < n_22 + 1) (h0j3 : 0 ≤ j3) (hj3 : j3 ≤ num) (hp3 : pw3 = r1 M j2.toNatClampNeg pw2 j3.toNatClampNeg) (c_4 : ¬ num ≤ j3) (ev_6 : v_6 = pw3 j2.toNatClampNeg) (c_7 : ¬ v_6 = (-1)) (ev_9 : v_9 = M j2.toNatClampNeg j3.toNatClampNeg) (c_10 : v_9 = (-1)) (ev_11 : v_11 = j3 + 1) : 0 ≤ v_11 := by
  grind
set_option maxHeartbeats 1000000 in
theorem pf_X1_lengthenWays_21 (num : Int32) (p7 : Nat → Int32) (M : Nat → Nat → Int32) (n_2 : Nat) (j1 : Int32) (pw : Nat → Int32) (n_12 : Nat) (j2 : Int32) (pw2 : Nat → Int32) (n_22 : Nat) (j3 : Int32) (pw3 : Nat → Int32) (v_6 : Int32) (v_9 : Int32) (v_11 : Int32) (hn0 : 0 ≤ num) (hn1 : num ≤ 10) (hn_2 : 10 - j1.toNatClampNeg < n_2 + 1) (h0j1 : 0 ≤ j1) (hj1 : 1 ≤ j1) (hj1b : j1 ≤ num ∨ j1 = 1) (hp1 : pw = r3 M num.toNatClampNeg p7 (j1.toNatClampNeg - 1)) (c_1 : ¬ num ≤ j1) (hn_12 : 10 - j2.toNatClampNeg < n_12 + 1) (h0j2 : 0 ≤ j2) (hj2 : j2 ≤ num) (hp2 : pw2 = r2 M num.toNatClampNeg pw j2.toNatClampNeg) (c_2 : ¬ num ≤ j2) (hn_22 : 10 - j3.toNatClampNeg < n_22 + 1) (h0j3 : 0 ≤ j3) (hj3 : j3 ≤ num) (hp3 : pw3 = r1 M j2.toNatClampNeg pw2 j3.toNatClampNeg) (c_4 : ¬ num ≤ j3) (ev_6 : v_6 = pw3 j2.toNatClampNeg) (c_7 : ¬ v_6 = (-1)) (ev_9 : v_9 = M j2.toNatClampNeg j3.toNatClampNeg) (c_10 : v_9 = (-1)) (ev_11 : v_11 = j3 + 1) : v_11 ≤ num := by
  grind
set_option maxHeartbeats 1000000 in
theorem pf_X1_lengthenWays_22 (num : Int32) (p7 : Nat → Int32) (M : Nat → Nat → Int32) (n_2 : Nat) (j1 : Int32) (pw : Nat → Int32) (n_12 : Nat) (j2 : Int32) (pw2 : Nat → Int32) (n_22 : Nat) (j3 : Int32) (pw3 : Nat → Int32) (v_6 : Int32) (v_9 : Int32) (v_11 : Int32) (hn0 : 0 ≤ num) (hn1 : num ≤ 10) (hn_2 : 10 - j1.toNatClampNeg < n_2 + 1) (h0j1 : 0 ≤ j1) (hj1 : 1 ≤ j1) (hj1b : j1 ≤ num ∨ j1 = 1) (hp1 : pw = r3 M num.toNatClampNeg p7 (j1.toNatClampNeg - 1)) (c_1 : ¬ num ≤ j1) (hn_12 : 10 - j2.toNatClampNeg < n_12 + 1) (h0j2 : 0 ≤ j2) (hj2 : j2 ≤ num) (hp2 : pw2 = r2 M num.toNatClampNeg pw j2.toNatClampNeg) (c_2 : ¬ num ≤ j2) (hn_22 : 10 - j3.toNatClampNeg < n_22 + 1) (h0j3 : 0 ≤ j3) (hj3 : j3 ≤ num) (hp3 : pw3 = r1 M j2.toNatClampNeg pw2 j3.toNatClampNeg) (c_4 : ¬ num ≤ j3) (ev_6 : v_6 = pw3 j2.toNatClampNeg) (c_7 : ¬ v_6 = (-1)) (ev_9 : v_9 = M j2.toNatClampNeg j3.toNatClampNeg) (c_10 : v_9 = (-1)) (ev_11 : v_11 = j3 + 1) : pw3 = r1 M j2.toNatClampNeg pw2 v_11.toNatClampNeg := by
  rw [r1_s (k := j3) h0j3 (by grind) (by assumption), ← hp3]
  first
  | (rw [if_neg (by grind)])
  | (rw [if_pos ⟨by grind, by grind⟩]
     grind [mx])
set_option maxHeartbeats 1000000 in
theorem pf_X1_lengthenWays_23 (num : Int32) (p7 : Nat → Int32) (M : Nat → Nat → Int32) (n_2 : Nat) (j1 : Int32) (pw : Nat → Int32) (n_12 : Nat) (j2 : Int32) (pw2 : Nat → Int32) (n_22 : Nat) (j3 : Int32) (pw3 : Nat → Int32) (v_6 : Int32) (v_9 : Int32) (hn0 : 0 ≤ num) (hn1 : num ≤ 10) (hn_2 : 10 - j1.toNatClampNeg < n_2 + 1) (h0j1 : 0 ≤ j1) (hj1 : 1 ≤ j1) (hj1b : j1 ≤ num ∨ j1 = 1) (hp1 : pw = r3 M num.toNatClampNeg p7 (j1.toNatClampNeg - 1)) (c_1 : ¬ num ≤ j1) (hn_12 : 10 - j2.toNatClampNeg < n_12 + 1) (h0j2 : 0 ≤ j2) (hj2 : j2 ≤ num) (hp2 : pw2 = r2 M num.toNatClampNeg pw j2.toNatClampNeg) (c_2 : ¬ num ≤ j2) (hn_22 : 10 - j3.toNatClampNeg < n_22 + 1) (h0j3 : 0 ≤ j3) (hj3 : j3 ≤ num) (hp3 : pw3 = r1 M j2.toNatClampNeg pw2 j3.toNatClampNeg) (c_4 : ¬ num ≤ j3) (ev_6 : v_6 = pw3 j2.toNatClampNeg) (c_7 : ¬ v_6 = (-1)) (ev_9 : v_9 = M j2.toNatClampNeg j3.toNatClampNeg) (c_10 : ¬ v_9 = (-1)) : vp_in j3 10 := by
  exact vi_in (M := 10) rfl (by grind) (by grind)
set_option maxHeartbeats 1000000 in
theorem pf_X1_lengthenWays_24 (num : Int32) (p7 : Nat → Int32) (M : Nat → Nat → Int32) (n_2 : Nat) (j1 : Int32) (pw : Nat → Int32) (n_12 : Nat) (j2 : Int32) (pw2 : Nat → Int32) (n_22 : Nat) (j3 : Int32) (pw3 : Nat → Int32) (v_6 : Int32) (v_9 : Int32) (v_12 : Int32) (hn0 : 0 ≤ num) (hn1 : num ≤ 10) (hn_2 : 10 - j1.toNatClampNeg < n_2 + 1) (h0j1 : 0 ≤ j1) (hj1 : 1 ≤ j1) (hj1b : j1 ≤ num ∨ j1 = 1) (hp1 : pw = r3 M num.toNatClampNeg p7 (j1.toNatClampNeg - 1)) (c_1 : ¬ num ≤ j1) (hn_12 : 10 - j2.toNatClampNeg < n_12 + 1) (h0j2 : 0 ≤ j2) (hj2 : j2 ≤ num) (hp2 : pw2 = r2 M num.toNatClampNeg pw j2.toNatClampNeg) (c_2 : ¬ num ≤ j2) (hn_22 : 10 - j3.toNatClampNeg < n_22 + 1) (h0j3 : 0 ≤ j3) (hj3 : j3 ≤ num) (hp3 : pw3 = r1 M j2.toNatClampNeg pw2 j3.toNatClampNeg) (c_4 : ¬ num ≤ j3) (ev_6 : v_6 = pw3 j2.toNatClampNeg) (c_7 : ¬ v_6 = (-1)) (ev_9 : v_9 = M j2.toNatClampNeg j3.toNatClampNeg) (c_10 : ¬ v_9 = (-1)) (ev_12 : v_12 = pw3 j3.toNatClampNeg) : vp_in j2 10 := by
  exact vi_in (M := 10) rfl (by grind) (by grind)
set_option maxHeartbeats 1000000 in
theorem pf_X1_lengthenWays_25 (num : Int32) (p7 : Nat → Int32) (M : Nat → Nat → Int32) (n_2 : Nat) (j1 : Int32) (pw : Nat → Int32) (n_12 : Nat) (j2 : Int32) (pw2 : Nat → Int32) (n_22 : Nat) (j3 : Int32) (pw3 : Nat → Int32) (v_6 : Int32) (v_9 : Int32) (v_12 : Int32) (v_13 : Int32) (hn0 : 0 ≤ num) (hn1 : num ≤ 10) (hn_2 : 10 - j1.toNatClampNeg < n_2 + 1) (h0j1 : 0 ≤ j1) (hj1 : 1 ≤ j1) (hj1b : j1 ≤ num ∨ j1 = 1) (hp1 : pw = r3 M num.toNatClampNeg p7 (j1.toNatClampNeg - 1)) (c_1 : ¬ num ≤ j1) (hn_12 : 10 - j2.toNatClampNeg < n_12 + 1) (h0j2 : 0 ≤ j2) (hj2 : j2 ≤ num) (hp2 : pw2 = r2 M num.toNatClampNeg pw j2.toNatClampNeg) (c_2 : ¬ num ≤ j2) (hn_22 : 10 - j3.toNatClampNeg < n_22 + 1) (h0j3 : 0 ≤ j3) (hj3 : j3 ≤ num) (hp3 : pw3 = r1 M j2.toNatClampNeg pw2 j3.toNatClampNeg) (c_4 : ¬ num ≤ j3) (ev_6 : v_6 = pw3 j2.toNatClampNeg) (c_7 : ¬ v_6 = (-1)) (ev_9 : v_9 = M j2.toNatClampNeg j3.toNatClampNeg) (c_10 : ¬ v_9 = (-1)) (ev_12 : v_12 = pw3 j3.toNatClampNeg) (ev_13 : v_13 = pw3 j2.toNatClampNeg) : vp_in j2 10 := by
  exact vi_in (M := 10) rfl (by grind) (by grind)
set_option maxHeartbeats 1000000 in
theorem pf_X1_lengthenWays_26 (num : Int32) (p7 : Nat → Int32) (M : Nat → Nat → Int32) (n_2 : Nat) (j1 : Int32) (pw : Nat → Int32) (n_12 : Nat) (j2 : Int32) (pw2 : Nat → Int32) (n_22 : Nat) (j3 : Int32) (pw3 : Nat → Int32) (v_6 : Int32) (v_9 : Int32) (v_12 : Int32) (v_13 : Int32) (hn0 : 0 ≤ num) (hn1 : num ≤ 10) (hn_2 : 10 - j1.toNatClampNeg < n_2 + 1) (h0j1 : 0 ≤ j1) (hj1 : 1 ≤ j1) (hj1b : j1 ≤ num ∨ j1 = 1) (hp1 : pw = r3 M num.toNatClampNeg p7 (j1.toNatClampNeg - 1)) (c_1 : ¬ num ≤ j1) (hn_12 : 10 - j2.toNatClampNeg < n_12 + 1) (h0j2 : 0 ≤ j2) (hj2 : j2 ≤ num) (hp2 : pw2 = r2 M num.toNatClampNeg pw j2.toNatClampNeg) (c_2 : ¬ num ≤ j2) (hn_22 : 10 - j3.toNatClampNeg < n_22 + 1) (h0j3 : 0 ≤ j3) (hj3 : j3 ≤ num) (hp3 : pw3 = r1 M j2.toNatClampNeg pw2 j3.toNatClampNeg) (c_4 : ¬ num ≤ j3) (ev_6 : v_6 = pw3 j2.toNatClampNeg) (c_7 : ¬ v_6 = (-1)) (ev_9 : v_9 = M j2.toNatClampNeg j3.toNatClampNeg) (c_10 : ¬ v_9 = (-1)) (ev_12 : v_12 = pw3 j3.toNatClampNeg) (ev_13 : v_13 = pw3 j2.toNatClampNeg) : j2.toNatClampNeg < 10 := by
  refine cl_lt (n := 10) ?_
  exact vi_in (M := 10) rfl (by grind) (by grind)
set_option maxHeartbeats 1000000 in
theorem pf_X1_lengthenWays_27 (num : Int32) (p7 : Nat → Int32) (M : Nat → Nat → Int32) (n_2 : Nat) (j1 : Int32) (pw : Nat → Int32) (n_12 : Nat) (j2 : Int32) (pw2 : Nat → Int32) (n_22 : Nat) (j3 : Int32) (pw3 : Nat → Int32) (v_6 : Int32) (v_9 : Int32) (v_12 : Int32) (v_13 : Int32) (hn0 : 0 ≤ num) (hn1 : num ≤ 10) (hn_2 : 10 - j1.toNatClampNeg < n_2 + 1) (h0j1 : 0 ≤ j1) (hj1 : 1 ≤ j1) (hj1b : j1 ≤ num ∨ j1 = 1) (hp1 : pw = r3 M num.toNatClampNeg p7 (j1.toNatClampNeg - 1)) (c_1 : ¬ num ≤ j1) (hn_12 : 10 - j2.toNatClampNeg < n_12 + 1) (h0j2 : 0 ≤ j2) (hj2 : j2 ≤ num) (hp2 : pw2 = r2 M num.toNatClampNeg pw j2.toNatClampNeg) (c_2 : ¬ num ≤ j2) (hn_22 : 10 - j3.toNatClampNeg < n_22 + 1) (h0j3 : 0 ≤ j3) (hj3 : j3 ≤ num) (hp3 : pw3 = r1 M j2.toNatClampNeg pw2 j3.toNatClampNeg) (c_4 : ¬ num ≤ j3) (ev_6 : v_6 = pw3 j2.toNatClampNeg) (c_7 : ¬ v_6 = (-1)) (ev_9 : v_9 = M j2.toNatClampNeg j3.toNatClampNeg) (c_10 : ¬ v_9 = (-1)) (ev_12 : v_12 = pw3 j3.toNatClampNeg) (ev_13 : v_13 = pw3 j2.toNatClampNeg) : vp_in j3 10 := by
  exact vi_in (M := 10) rfl (by grind) (by grind)
set_option maxHeartbeats 1000000 in
theorem pf_X1_lengthenWays_28 (num : Int32) (p7 : Nat → Int32) (M : Nat → Nat → Int32) (n_2 : Nat) (j1 : Int32) (pw : Nat → Int32) (n_12 : Nat) (j2 : Int32) (pw2 : Nat → Int32) (n_22 : Nat) (j3 : Int32) (pw3 : Nat → Int32) (v_6 : Int32) (v_9 : Int32) (v_12 : Int32) (v_13 : Int32) (v_14 : Int32) (v_15 : Int32) (v_16 : Int32) (hn0 : 0 ≤ num) (hn1 : num ≤ 10) (hn_2 : 10 - j1.toNatClampNeg < n_2 + 1) (h0j1 : 0 ≤ j1) (hj1 : 1 ≤ j1) (hj1b : j1 ≤ num ∨ j1 = 1) (hp1 : pw = r3 M num.toNatClampNeg p7 (j1.toNatClampNeg - 1)) (c_1 : ¬ num ≤ j1) (hn_12 : 10 - j2.toNatClampNeg < n_12 + 1) (h0j2 : 0 ≤ j2) (hj2 : j2 ≤ num) (hp2 : pw2 = r2 M num.toNatClampNeg pw j2.toNatClampNeg) (c_2 : ¬ num ≤ j2) (hn_22 : 10 - j3.toNatClampNeg < n_22 + 1) (h0j3 : 0 ≤ j3) (hj3 : j3 ≤ num) (hp3 : pw3 = r1 M j2.toNatClampNeg pw2 j3.toNatClampNeg) (c_4 : ¬ num ≤ j3) (ev_6 : v_6 = pw3 j2.toNatClampNeg) (c_7 : ¬ v_6 = (-1)) (ev_9 : v_9 = M j2.toNatClampNeg j3.toNatClampNeg) (c_10 : ¬ v_9 = (-1)) (ev_12 : v_12 = pw3 j3.toNatClampNeg) (ev_13 : v_13 = pw3 j2.toNatClampNeg) (ev_14 : v_14 = M j2.toNatClampNeg j3.toNatClampNeg) (ev_15 : v_15 = v_13 + v_14) (ev_16 : v_16 = (if v_12 < v_15 then v_15 else v_12)) : vp_in j3 10 := by
  exact vi_in (M := 10) rfl (by grind) (by grind)
set_option maxHeartbeats 1000000 in
theorem pf_X1_lengthenWays_29 (num : Int32) (p7 : Nat → Int32) (M : Nat → Nat → Int32) (n_2 : Nat) (j1 : Int32) (pw : Nat → Int32) (n_12 : Nat) (j2 : Int32) (pw2 : Nat → Int32) (n_22 : Nat) (j3 : Int32) (pw3 : Nat → Int32) (v_6 : Int32) (v_9 : Int32) (v_12 : Int32) (v_13 : Int32) (v_14 : Int32) (v_15 : Int32) (v_16 : Int32) (v_17 : Int32) (hn0 : 0 ≤ num) (hn1 : num ≤ 10) (hn_2 : 10 - j1.toNatClampNeg < n_2 + 1) (h0j1 : 0 ≤ j1) (hj1 : 1 ≤ j1) (hj1b : j1 ≤ num ∨ j1 = 1) (hp1 : pw = r3 M num.toNatClampNeg p7 (j1.toNatClampNeg - 1)) (c_1 : ¬ num ≤ j1) (hn_12 : 10 - j2.toNatClampNeg < n_12 + 1) (h0j2 : 0 ≤ j2) (hj2 : j2 ≤ num) (hp2 : pw2 = r2 M num.toNatClampNeg pw j2.toNatClampNeg) (c_2 : ¬ num ≤ j2) (hn_22 : 10 - j3.toNatClampNeg < n_22 + 1) (h0j3 : 0 ≤ j3) (hj3 : j3 ≤ num) (hp3 : pw3 = r1 M j2.toNatClampNeg pw2 j3.toNatClampNeg) (c_4 : ¬ num ≤ j3) (ev_6 : v_6 = pw3 j2.toNatClampNeg) (c_7 : ¬ v_6 = (-1)) (ev_9 : v_9 = M j2.toNatClampNeg j3.toNatClampNeg) (c_10 : ¬ v_9 = (-1)) (ev_12 : v_12 = pw3 j3.toNatClampNeg) (ev_13 : v_13 = pw3 j2.toNatClampNeg) (ev_14 : v_14 = M j2.toNatClampNeg j3.toNatClampNeg) (ev_15 : v_15 = v_13 + v_14) (ev_16 : v_16 = (if v_12 < v_15 then v_15 else v_12)) (ev_17 : v_17 = j3 + 1) : 10 - v_17.toNatClampNeg < n_22 := by
  exact ms_dec (L := 10) (k := j3) (by grind) (show ¬ (10 : Int32) ≤ j3 by grind) (by omega) (by assumption) hn_22
set_option maxHeartbeats 1000000 in
theorem pf_X1_lengthenWays_30 (num : Int32) (p7 : Nat → Int32) (M : Nat → Nat → Int32) (n_2 : Nat) (j1 : Int32) (pw : Nat → Int32) (n_12 : Nat) (j2 : Int32) (pw2 : Nat → Int32) (n_22 : Nat) (j3 : Int32) (pw3 : Nat → Int32) (v_6 : Int32) (v_9 : Int32) (v_12 : Int32) (v_13 : Int32) (v_14 : Int32) (v_15 : Int32) (v_16 : Int32) (v_17 : Int32) (hn0 : 0 ≤ num) (hn1 : num ≤ 10) (hn_2 : 10 - j1.toNatClampNeg < n_2 + 1) (h0j1 : 0 ≤ j1) (hj1 : 1 ≤ j1) (hj1b : j1 ≤ num ∨ j1 = 1) (hp1 : pw = r3 M num.toNatClampNeg p7 (j1.toNatClampNeg - 1)) (c_1 : ¬ num ≤ j1) (hn_12 : 10 - j2.toNatClampNeg < n_12 + 1) (h0j2 : 0 ≤ j2) (hj2 : j2 ≤ num) (hp2 : pw2 = r2 M num.toNatClampNeg pw j2.toNatClampNeg) (c_2 : ¬ num ≤ j2) (hn_22 : 10 - j3.toNatClampNeg < n_22 + 1) (h0j3 : 0 ≤ j3) (hj3 : j3 ≤ num) (hp3 : pw3 = r1 M j2.toNatClampNeg pw2 j3.toNatClampNeg) (c_4 : ¬ num ≤ j3) (ev_6 : v_6 = pw3 j2.toNatClampNeg) (c_7 : ¬ v_6 = (-1)) (ev_9 : v_9 = M j2.toNatClampNeg j3.toNatClampNeg) (c_10 : ¬ v_9 = (-1)) (ev_12 : v_12 = pw3 j3.toNatClampNeg) (ev_13 : v_13 = pw3 j2.toNatClampNeg) (ev_14 : v_14 = M j2.toNatClampNeg j3.toNatClampNeg) (ev_15 : v_15 = v_13 + v_14) (ev_16 : v_16 = (if v_12 < v_15 then v_15 else v_12)) (ev_17 : v_17 = j3 + 1) : 0 ≤ v_17 := by
  grind
set_option maxHeartbeats 1000000 in
theorem pf_X1_lengthenWays_31 (num : Int32) (p7 : Nat → Int32) (M : Nat → Nat → Int32) (n_2 : Nat) (j1 : Int32) (pw : Nat → Int32) (n_12 : Nat) (j2 : Int32) (pw2 : Nat → Int32) (n_22 : Nat) (j3 : Int32) (pw3 : Nat → Int32) (v_6 : Int32) (v_9 : Int32) (v_12 : Int32) (v_13 : Int32) (v_14 : Int32) (v_15 : Int32) (v_16 : Int32) (v_17 : Int32) (hn0 : 0 ≤ num) (hn1 : num ≤ 10) (hn_2 : 10 - j1.toNatClampNeg < n_2 + 1) (h0j1 : 0 ≤ j1) (hj1 : 1 ≤ j1) (hj1b : j1 ≤ num ∨ j1 = 1) (hp1 : pw = r3 M num.toNatClampNeg p7 (j1.toNatClampNeg - 1)) (c_1 : ¬ num ≤ j1) (hn_12 : 10 - j2.toNatClampNeg < n_12 + 1) (h0j2 : 0 ≤ j2) (hj2 : j2 ≤ num) (hp2 : pw2 = r2 M num.toNatClampNeg pw j2.toNatClampNeg) (c_2 : ¬ num ≤ j2) (hn_22 : 10 - j3.toNatClampNeg < n_22 + 1) (h0j3 : 0 ≤ j3) (hj3 : j3 ≤ num) (hp3 : pw3 = r1 M j2.toNatClampNeg pw2 j3.toNatClampNeg) (c_4 : ¬ num ≤ j3) (ev_6 : v_6 = pw3 j2.toNatClampNeg) (c_7 : ¬ v_6 = (-1)) (ev_9 : v_9 = M j2.toNatClampNeg j3.toNatClampNeg) (c_10 : ¬ v_9 = (-1)) (ev_12 : v_12 = pw3 j3.toNatClampNeg) (ev_13 : v_13 = pw3 j2.toNatClampNeg) (ev_14 : v_14 = M j2.toNatClampNeg j3.toNatClampNeg) (ev_15 : v_15 = v_13 + v_14) (ev_16 : v_16 = (if v_12 < v_15 then v_15 else v_12)) (ev_17 : v_17 = j3 + 1) : v_17 ≤ num := by
  grind
set_option maxHeartbeats 1000000 in
theorem pf_X1_lengthenWays_32 (num : Int32) (p7 : Nat → Int32) (M : Nat → Nat → Int32) (n_2 : Nat) (j1 : Int32) (pw : Nat → Int32) (n_12 : Nat) (j2 : Int32) (pw2 : Nat → Int32) (n_22 : Nat) (j3 : Int32) (pw3 : Nat → Int32) (v_6 : Int32) (v_9 : Int32) (v_12 : Int32) (v_13 : Int32) (v_14 : Int32) (v_15 : Int32) (v_16 : Int32) (v_17 : Int32) (hn0 : 0 ≤ num) (hn1 : num ≤ 10) (hn_2 : 10 - j1.toNatClampNeg < n_2 + 1) (h0j1 : 0 ≤ j1) (hj1 : 1 ≤ j1) (hj1b : j1 ≤ num ∨ j1 = 1) (hp1 : pw = r3 M num.toNatClampNeg p7 (j1.toNatClampNeg - 1)) (c_1 : ¬ num ≤ j1) (hn_12 : 10 - j2.toNatClampNeg < n_12 + 1) (h0j2 : 0 ≤ j2) (hj2 : j2 ≤ num) (hp2 : pw2 = r2 M num.toNatClampNeg pw j2.toNatClampNeg) (c_2 : ¬ num ≤ j2) (hn_22 : 10 - j3.toNatClampNeg < n_22 + 1) (h0j3 : 0 ≤ j3) (hj3 : j3 ≤ num) (hp3 : pw3 = r1 M j2.toNatClampNeg pw2 j3.toNatClampNeg) (c_4 : ¬ num ≤ j3) (ev_6 : v_6 = pw3 j2.toNatClampNeg) (c_7 : ¬ v_6 = (-1)) (ev_9 : v_9 = M j2.toNatClampNeg j3.toNatClampNeg) (c_10 : ¬ v_9 = (-1)) (ev_12 : v_12 = pw3 j3.toNatClampNeg) (ev_13 : v_13 = pw3 j2.toNatClampNeg) (ev_14 : v_14 = M j2.toNatClampNeg j3.toNatClampNeg) (ev_15 : v_15 = v_13 + v_14) (ev_16 : v_16 = (if v_12 < v_15 then v_15 else v_12)) (ev_17 : v_17 = j3 + 1) : (upd pw3 j3.toNatClampNeg v_16) = r1 M j2.toNatClampNeg pw2 v_17.toNatClampNeg := by
  rw [r1_s (k := j3) h0j3 (by grind) (by assumption), ← hp3]
  first
  | (rw [if_neg (by grind)])
  | (rw [if_pos ⟨by grind, by grind⟩]
     grind [mx])
set_option maxHeartbeats 1000000 in
theorem pf_X1_lengthenWays_33 (num : Int32) (p7 : Nat → Int32) (M : Nat → Nat → Int32) (n_2 : Nat) (j1 : Int32) (pw : Nat → Int32) (n_12 : Nat) (j2 : Int32) (pw2 : Nat → Int32) (hn0 : 0 ≤ num) (hn1 : num ≤ 10) (hn_2 : 10 - j1.toNatClampNeg < n_2 + 1) (h0j1 : 0 ≤ j1) (hj1 : 1 ≤ j1) (hj1b : j1 ≤ num ∨ j1 = 1) (hp1 : pw = r3 M num.toNatClampNeg p7 (j1.toNatClampNeg - 1)) (c_1 : ¬ num ≤ j1) (hn_12 : 10 - j2.toNatClampNeg < n_12 + 1) (h0j2 : 0 ≤ j2) (hj2 : j2 ≤ num) (hp2 : pw2 = r2 M num.toNatClampNeg pw j2.toNatClampNeg) (c_2 : ¬ num ≤ j2) : 0 ≤ (0 : Int32) := by
  grind
set_option maxHeartbeats 1000000 in
theorem pf_X1_lengthenWays_34 (num : Int32) (p7 : Nat → Int32) (M : Nat → Nat → Int32) (n_2 : Nat) (j1 : Int32) (pw : Nat → Int32) (n_12 : Nat) (j2 : Int32) (pw2 : Nat → Int32) (hn0 : 0 ≤ num) (hn1 : num ≤ 10) (hn_2 : 10 - j1.toNatClampNeg < n_2 + 1) (h0j1 : 0 ≤ j1) (hj1 : 1 ≤ j1) (hj1b : j1 ≤ num ∨ j1 = 1) (hp1 : pw = r3 M num.toNatClampNeg p7 (j1.toNatClampNeg - 1)) (c_1 : ¬ num ≤ j1) (hn_12 : 10 - j2.toNatClampNeg < n_12 + 1) (h0j2 : 0 ≤ j2) (hj2 : j2 ≤ num) (hp2 : pw2 = r2 M num.toNatClampNeg pw j2.toNatClampNeg) (c_2 : ¬ num ≤ j2) : (0 : Int32) ≤ num := by
  grind
set_option maxHeartbeats 1000000 in
theorem pf_X1_lengthenWays_35 (num : Int32) (p7 : Nat → Int32) (M : Nat → Nat → Int32) (n_2 : Nat) (j1 : Int32) (pw : Nat → Int32) (n_12 : Nat) (j2 : Int32) (pw2 : Nat → Int32) (hn0 : 0 ≤ num) (hn1 : num ≤ 10) (hn_2 : 10 - j1.toNatClampNeg < n_2 + 1) (h0j1 : 0 ≤ j1) (hj1 : 1 ≤ j1) (hj1b : j1 ≤ num ∨ j1 = 1) (hp1 : pw = r3 M num.toNatClampNeg p7 (j1.toNatClampNeg - 1)) (c_1 : ¬ num ≤ j1) (hn_12 : 10 - j2.toNatClampNeg < n_12 + 1) (h0j2 : 0 ≤ j2) (hj2 : j2 ≤ num) (hp2 : pw2 = r2 M num.toNatClampNeg pw j2.toNatClampNeg) (c_2 : ¬ num ≤ j2) : pw2 = r1 M j2.toNatClampNeg pw2 (0 : Int32).toNatClampNeg := by
  rfl
set_option maxHeartbeats 1000000 in
theorem pf_X1_lengthenWays_36 (num : Int32) (p7 : Nat → Int32) (M : Nat → Nat → Int32) (n_2 : Nat) (j1 : Int32) (pw : Nat → Int32) (hn0 : 0 ≤ num) (hn1 : num ≤ 10) (hn_2 : 10 - j1.toNatClampNeg < n_2 + 1) (h0j1 : 0 ≤ j1) (hj1 : 1 ≤ j1) (hj1b : j1 ≤ num ∨ j1 = 1) (hp1 : pw = r3 M num.toNatClampNeg p7 (j1.toNatClampNeg - 1)) (c_1 : ¬ num ≤ j1) : 0 ≤ (0 : Int32) := by
  grind
set_option maxHeartbeats 1000000 in
theorem pf_X1_lengthenWays_37 (num : Int32) (p7 : Nat → Int32) (M : Nat → Nat → Int32) (n_2 : Nat) (j1 : Int32) (pw : Nat → Int32) (hn0 : 0 ≤ num) (hn1 : num ≤ 10) (hn_2 : 10 - j1.toNatClampNeg < n_2 + 1) (h0j1 : 0 ≤ j1) (hj1 : 1 ≤ j1) (hj1b : j1 ≤ num ∨ j1 = 1) (hp1 : pw = r3 M num.toNatClampNeg p7 (j1.toNatClampNeg - 1)) (c_1 : ¬ num ≤ j1) : (0 : Int32) ≤ num := by
  grind
set_option maxHeartbeats 1000000 in
theorem pf_X1_lengthenWays_38 (num : Int32) (p7 : Nat → Int32) (M : Nat → Nat → Int32) (n_2 : Nat) (j1 : Int32) (pw : Nat → Int32) (hn0 : 0 ≤ num) (hn1 : num ≤ 10) (hn_2 : 10 - j1.toNatClampNeg < n_2 + 1) (h0j1 : 0 ≤ j1) (hj1 : 1 ≤ j1) (hj1b : j1 ≤ num ∨ j1 = 1) (hp1 : pw = r3 M num.toNatClampNeg p7 (j1.toNatClampNeg - 1)) (c_1 : ¬ num ≤ j1) : pw = r2 M num.toNatClampNeg pw (0 : Int32).toNatClampNeg := by
  rfl
set_option maxHeartbeats 1000000 in
theorem pf_X1_lengthenWays_39 (num : Int32) (hn0 : 0 ≤ num) (hn1 : num ≤ 10) : 0 ≤ (1 : Int32) := by
  grind
set_option maxHeartbeats 1000000 in
theorem pf_X1_lengthenWays_40 (num : Int32) (hn0 : 0 ≤ num) (hn1 : num ≤ 10) : 1 ≤ (1 : Int32) := by
  grind
set_option maxHeartbeats 1000000 in
theorem pf_X1_lengthenWays_41 (num : Int32) (hn0 : 0 ≤ num) (hn1 : num ≤ 10) : (1 : Int32) ≤ num ∨ (1 : Int32) = 1 := by
  grind
set_option maxHeartbeats 1000000 in
theorem pf_X1_lengthenWays_42 (num : Int32) (p7 : Nat → Int32) (M : Nat → Nat → Int32) (hn0 : 0 ≤ num) (hn1 : num ≤ 10) : p7 = r3 M num.toNatClampNeg p7 ((1 : Int32).toNatClampNeg - 1) := by
  rfl
set_option maxHeartbeats 4000000 in
set_option maxRecDepth 100000 in
theorem c_X1_lengthenWays (l : Launch) (D : va_G) (cI cQ : ClassId) (sz : Nat) (h1 : Nat) (k7 : Nat) (k6 : Nat) (k0 : Nat) (k1 : Nat) (k2 : Nat) (k3 : Nat) (k4 : Nat) (k5 : Nat) (num : Int32) (p7 : Nat → Int32) (R : Nat → Nat) (M : Nat → Nat → Int32) (hn0 : 0 ≤ num) (hn1 : num ≤ 10) : CtV l yX1_lengthenWays wsX1_lengthenWays 1 21 0 0 [.ref h1] D [(cI, .int), (cQ, .array .int)] [(h1, .inr (1, [.ref k0, .ref k1, .ref k2, .ref k3, .ref k4, .ref k5, .ref k6, .ref k7, .int num])), (k7, .inl (cI, 10, .inl p7)), (k6, .inl (cQ, 10, .inr (.inr (.inr (.inr (fun i => if i < 10 then some (R i) else none)))))), ((R 0), .inl (cI, 10, .inl (M 0))), ((R 1), .inl (cI, 10, .inl (M 1))), ((R 2), .inl (cI, 10, .inl (M 2))), ((R 3), .inl (cI, 10, .inl (M 3))), ((R 4), .inl (cI, 10, .inl (M 4))), ((R 5), .inl (cI, 10, .inl (M 5))), ((R 6), .inl (cI, 10, .inl (M 6))), ((R 7), .inl (cI, 10, .inl (M 7))), ((R 8), .inl (cI, 10, .inl (M 8))), ((R 9), .inl (cI, 10, .inl (M 9)))] sz (fun (u : (Nat → Int32)) => u = r3 M num.toNatClampNeg p7 (num.toNatClampNeg - 1)) (fun (u : (Nat → Int32)) => [(h1, .inr (1, [.ref k0, .ref k1, .ref k2, .ref k3, .ref k4, .ref k5, .ref k6, .ref k7, .int num])), (k7, .inl (cI, 10, .inl u)), (k6, .inl (cQ, 10, .inr (.inr (.inr (.inr (fun i => if i < 10 then some (R i) else none)))))), ((R 0), .inl (cI, 10, .inl (M 0))), ((R 1), .inl (cI, 10, .inl (M 1))), ((R 2), .inl (cI, 10, .inl (M 2))), ((R 3), .inl (cI, 10, .inl (M 3))), ((R 4), .inl (cI, 10, .inl (M 4))), ((R 5), .inl (cI, 10, .inl (M 5))), ((R 6), .inl (cI, 10, .inl (M 6))), ((R 7), .inl (cI, 10, .inl (M 7))), ((R 8), .inl (cI, 10, .inl (M 8))), ((R 9), .inl (cI, 10, .inl (M 9)))]) := by
  refine Met.ofW (cc := cX1_lengthenWays) (maxL := 4) (ret := none) (by decide) rfl ?_
  intro p e s m args below meth c s₁ B hml hv
  obtain ⟨rfl, hsz, hP, hK, hD0, hN⟩ := hv
  have hx := B.exec
  have hb := B.bytes
  have hr := B.returns
  have hts := atoms_spec (ws := wsX1_lengthenWays) B.pre
  have hown : s.vm.findClass RX1 = some m.cls := findClass_of_methodNamed B.named
  have hlocks := B.notSynchronized
  subst hsz
  have hD := hD0.self (sz := s.heap.size)
  generalize hAe : va_A [(h1, .inr (1, [.ref k0, .ref k1, .ref k2, .ref k3, .ref k4, .ref k5, .ref k6, .ref k7, .int num])), (k7, .inl (cI, 10, .inl p7)), (k6, .inl (cQ, 10, .inr (.inr (.inr (.inr (fun i => if i < 10 then some (R i) else none)))))), ((R 0), .inl (cI, 10, .inl (M 0))), ((R 1), .inl (cI, 10, .inl (M 1))), ((R 2), .inl (cI, 10, .inl (M 2))), ((R 3), .inl (cI, 10, .inl (M 3))), ((R 4), .inl (cI, 10, .inl (M 4))), ((R 5), .inl (cI, 10, .inl (M 5))), ((R 6), .inl (cI, 10, .inl (M 6))), ((R 7), .inl (cI, 10, .inl (M 7))), ((R 8), .inl (cI, 10, .inl (M 8))), ((R 9), .inl (cI, 10, .inl (M 9)))] s.heap.size = A at hD ⊢
  have hA : ∀ q : Nat, s.heap.size ≤ q → A q := fun q h => by rw [← hAe]; exact Or.inr h
  have hS : va_S A s.heap s.heap [] := va_S.rf
  have hl := lv_entry ([.ref h1]) (n := 4) (Nat.le_of_ble_eq_true rfl)
  rw [lg_entry_eq]
  generalize (lg_sl ([.ref h1]) ++ List.replicate (4 - (lg_sl ([.ref h1])).length) Slot.unset).toArray = ls at hl ⊢
  have hl : lv_has ls 4 [(0, .ref h1)] := hl
  refine W_gen (fun GW hIn hOut => ?_)
  refine hIn _ _ _ _ _ ?_
  have hP0 := hP
  refine lv_iconst (v := 1) hx hb dX1_lengthenWays_0 (by decide) ?_
  refine lv_istore_n (lv' := [(1, .int 1), (0, .ref h1)]) hx hb dX1_lengthenWays_1 rfl hl (by decide) rfl (fun ls hl => ?_)
  have lp_2 : ∀ (n : Nat) (j1 : Int32) (pw : Nat → Int32) (H : Heap) (locs : List Loc) (ls : Array Slot), 10 - j1.toNatClampNeg < n → (0 ≤ j1) → (1 ≤ j1) → (j1 ≤ num ∨ j1 = 1) → (pw = r3 M num.toNatClampNeg p7 (j1.toNatClampNeg - 1)) → va_P D vwCl [(h1, .inr (1, [.ref k0, .ref k1, .ref k2, .ref k3, .ref k4, .ref k5, .ref k6, .ref k7, .int num])), (k7, .inl (cI, 10, .inl pw)), (k6, .inl (cQ, 10, .inr (.inr (.inr (.inr (fun i => if i < 10 then some (R i) else none)))))), ((R 0), .inl (cI, 10, .inl (M 0))), ((R 1), .inl (cI, 10, .inl (M 1))), ((R 2), .inl (cI, 10, .inl (M 2))), ((R 3), .inl (cI, 10, .inl (M 3))), ((R 4), .inl (cI, 10, .inl (M 4))), ((R 5), .inl (cI, 10, .inl (M 5))), ((R 6), .inl (cI, 10, .inl (M 6))), ((R 7), .inl (cI, 10, .inl (M 7))), ((R 8), .inl (cI, 10, .inl (M 8))), ((R 9), .inl (cI, 10, .inl (M 9)))] H → va_D A [(h1, .inr (1, [.ref k0, .ref k1, .ref k2, .ref k3, .ref k4, .ref k5, .ref k6, .ref k7, .int num])), (k7, .inl (cI, 10, .inl pw)), (k6, .inl (cQ, 10, .inr (.inr (.inr (.inr (fun i => if i < 10 then some (R i) else none)))))), ((R 0), .inl (cI, 10, .inl (M 0))), ((R 1), .inl (cI, 10, .inl (M 1))), ((R 2), .inl (cI, 10, .inl (M 2))), ((R 3), .inl (cI, 10, .inl (M 3))), ((R 4), .inl (cI, 10, .inl (M 4))), ((R 5), .inl (cI, 10, .inl (M 5))), ((R 6), .inl (cI, 10, .inl (M 6))), ((R 7), .inl (cI, 10, .inl (M 7))), ((R 8), .inl (cI, 10, .inl (M 8))), ((R 9), .inl (cI, 10, .inl (M 9)))] → va_S A s.heap H locs → lv_has ls 4 [(0, .ref h1), (1, .int j1)] → GW H locs 0 0 (F0 m 2 ls []) := by
    intro n_2
    induction n_2 with
    | zero => intro j1 pw H locs ls hn_2; exact absurd hn_2 (Nat.not_lt_zero _)
    | succ n_2 ih_2 =>
      intro j1 pw H locs ls hn_2 h0j1 hj1 hj1b hp1 hP hD hS hl
      refine hIn _ _ _ _ _ ?_
      refine lv_iload_n hx hb dX1_lengthenWays_2 rfl (lv_at hl 1 rfl) ?_
      refine lv_aload_n hx hb dX1_lengthenWays_3 rfl (lv_at hl 0 rfl) ?_
      refine va_get (D := D) (ci := 1) (v := .int num) (C := RX1) (T := TX1) (N := 9) hx hb hts iw_X1_lengthenWays_1 hown hK hP 0 rfl rfl 8 (by decide) (hts _ wd_X1_lengthenWays_1) (fun _ h9 => h9) rfl dX1_lengthenWays_4 ?_
      refine lv_icmp_ge (tgt := 100) hx hb dX1_lengthenWays_7 (by decide) (fun c_1 => ?_) (fun c_1 => ?_)
      · refine W.widen (k := 0) (n := 0) (Nat.le_of_ble_eq_true rfl) (Nat.le_of_ble_eq_true rfl) ?_
        exact fi_v pw hx hb hr hlocks hK (hP.sub [0, 1, 2, 3, 4, 5, 6, 7, 8, 9, 10, 11, 12] rfl) (hD.sub [0, 1, 2, 3, 4, 5, 6, 7, 8, 9, 10, 11, 12] (by decide) rfl) hS (pf_X1_lengthenWays_1 num p7 M n_2 j1 pw hn0 hn1 hn_2 h0j1 hj1 hj1b hp1 c_1) dX1_lengthenWays_100
      · refine lv_iconst (v := 0) hx hb dX1_lengthenWays_10 (by decide) ?_
        refine lv_istore_n (lv' := [(2, .int 0), (0, .ref h1), (1, .int j1)]) hx hb dX1_lengthenWays_11 rfl hl (by decide) rfl (fun ls hl => ?_)
        have lp_12 : ∀ (n : Nat) (j2 : Int32) (pw2 : Nat → Int32) (H : Heap) (locs : List Loc) (ls : Array Slot), 10 - j2.toNatClampNeg < n → (0 ≤ j2) → (j2 ≤ num) → (pw2 = r2 M num.toNatClampNeg pw j2.toNatClampNeg) → va_P D vwCl [(h1, .inr (1, [.ref k0, .ref k1, .ref k2, .ref k3, .ref k4, .ref k5, .ref k6, .ref k7, .int num])), (k7, .inl (cI, 10, .inl pw2)), (k6, .inl (cQ, 10, .inr (.inr (.inr (.inr (fun i => if i < 10 then some (R i) else none)))))), ((R 0), .inl (cI, 10, .inl (M 0))), ((R 1), .inl (cI, 10, .inl (M 1))), ((R 2), .inl (cI, 10, .inl (M 2))), ((R 3), .inl (cI, 10, .inl (M 3))), ((R 4), .inl (cI, 10, .inl (M 4))), ((R 5), .inl (cI, 10, .inl (M 5))), ((R 6), .inl (cI, 10, .inl (M 6))), ((R 7), .inl (cI, 10, .inl (M 7))), ((R 8), .inl (cI, 10, .inl (M 8))), ((R 9), .inl (cI, 10, .inl (M 9)))] H → va_D A [(h1, .inr (1, [.ref k0, .ref k1, .ref k2, .ref k3, .ref k4, .ref k5, .ref k6, .ref k7, .int num])), (k7, .inl (cI, 10, .inl pw2)), (k6, .inl (cQ, 10, .inr (.inr (.inr (.inr (fun i => if i < 10 then some (R i) else none)))))), ((R 0), .inl (cI, 10, .inl (M 0))), ((R 1), .inl (cI, 10, .inl (M 1))), ((R 2), .inl (cI, 10, .inl (M 2))), ((R 3), .inl (cI, 10, .inl (M 3))), ((R 4), .inl (cI, 10, .inl (M 4))), ((R 5), .inl (cI, 10, .inl (M 5))), ((R 6), .inl (cI, 10, .inl (M 6))), ((R 7), .inl (cI, 10, .inl (M 7))), ((R 8), .inl (cI, 10, .inl (M 8))), ((R 9), .inl (cI, 10, .inl (M 9)))] → va_S A s.heap H locs → lv_has ls 4 [(0, .ref h1), (1, .int j1), (2, .int j2)] → GW H locs 0 0 (F0 m 12 ls []) := by
          intro n_12
          induction n_12 with
          | zero => intro j2 pw2 H locs ls hn_12; exact absurd hn_12 (Nat.not_lt_zero _)
          | succ n_12 ih_12 =>
            intro j2 pw2 H locs ls hn_12 h0j2 hj2 hp2 hP hD hS hl
            refine hIn _ _ _ _ _ ?_
            refine lv_iload_n hx hb dX1_lengthenWays_12 rfl (lv_at hl 2 rfl) ?_
            refine lv_aload_n hx hb dX1_lengthenWays_13 rfl (lv_at hl 0 rfl) ?_
            refine va_get (D := D) (ci := 1) (v := .int num) (C := RX1) (T := TX1) (N := 9) hx hb hts iw_X1_lengthenWays_1 hown hK hP 0 rfl rfl 8 (by decide) (hts _ wd_X1_lengthenWays_1) (fun _ h9 => h9) rfl dX1_lengthenWays_14 ?_
            refine lv_icmp_ge (tgt := 94) hx hb dX1_lengthenWays_17 (by decide) (fun c_2 => ?_) (fun c_2 => ?_)
            · obtain ⟨v_3, ev_3⟩ : ∃ y : Int32, y = j1 + 1 := ⟨_, rfl⟩
              refine lv_iinc (v := v_3) (lv' := [(1, .int v_3), (0, .ref h1), (2, .int j2)]) hx hb dX1_lengthenWays_94 hl (k := 1) rfl (by rw [ev_3]; rfl) (by decide) rfl (fun ls hl => ?_)
              refine lv_goto (tgt := 2) hx hb dX1_lengthenWays_97 (by decide) ?_
              exact hOut _ _ _ _ _ (ih_2 v_3 pw2 _ _ _ (pf_X1_lengthenWays_2 num p7 M n_2 j1 pw n_12 j2 pw2 v_3 hn0 hn1 hn_2 h0j1 hj1 hj1b hp1 c_1 hn_12 h0j2 hj2 hp2 c_2 ev_3) (pf_X1_lengthenWays_3 num p7 M n_2 j1 pw n_12 j2 pw2 v_3 hn0 hn1 hn_2 h0j1 hj1 hj1b hp1 c_1 hn_12 h0j2 hj2 hp2 c_2 ev_3) (pf_X1_lengthenWays_4 num p7 M n_2 j1 pw n_12 j2 pw2 v_3 hn0 hn1 hn_2 h0j1 hj1 hj1b hp1 c_1 hn_12 h0j2 hj2 hp2 c_2 ev_3) (pf_X1_lengthenWays_5 num p7 M n_2 j1 pw n_12 j2 pw2 v_3 hn0 hn1 hn_2 h0j1 hj1 hj1b hp1 c_1 hn_12 h0j2 hj2 hp2 c_2 ev_3) (pf_X1_lengthenWays_6 num p7 M n_2 j1 pw n_12 j2 pw2 v_3 hn0 hn1 hn_2 h0j1 hj1 hj1b hp1 c_1 hn_12 h0j2 hj2 hp2 c_2 ev_3) (hP.sub [0, 1, 2, 3, 4, 5, 6, 7, 8, 9, 10, 11, 12] rfl) (hD.sub [0, 1, 2, 3, 4, 5, 6, 7, 8, 9, 10, 11, 12] (by decide) rfl) hS (lv_sub hl [1, 0] rfl))
            · refine lv_iconst (v := 0) hx hb dX1_lengthenWays_20 (by decide) ?_
              refine lv_istore_n (lv' := [(3, .int 0), (0, .ref h1), (1, .int j1), (2, .int j2)]) hx hb dX1_lengthenWays_21 rfl hl (by decide) rfl (fun ls hl => ?_)
              have lp_22 : ∀ (n : Nat) (j3 : Int32) (pw3 : Nat → Int32) (H : Heap) (locs : List Loc) (ls : Array Slot), 10 - j3.toNatClampNeg < n → (0 ≤ j3) → (j3 ≤ num) → (pw3 = r1 M j2.toNatClampNeg pw2 j3.toNatClampNeg) → va_P D vwCl [(h1, .inr (1, [.ref k0, .ref k1, .ref k2, .ref k3, .ref k4, .ref k5, .ref k6, .ref k7, .int num])), (k7, .inl (cI, 10, .inl pw3)), (k6, .inl (cQ, 10, .inr (.inr (.inr (.inr (fun i => if i < 10 then some (R i) else none)))))), ((R 0), .inl (cI, 10, .inl (M 0))), ((R 1), .inl (cI, 10, .inl (M 1))), ((R 2), .inl (cI, 10, .inl (M 2))), ((R 3), .inl (cI, 10, .inl (M 3))), ((R 4), .inl (cI, 10, .inl (M 4))), ((R 5), .inl (cI, 10, .inl (M 5))), ((R 6), .inl (cI, 10, .inl (M 6))), ((R 7), .inl (cI, 10, .inl (M 7))), ((R 8), .inl (cI, 10, .inl (M 8))), ((R 9), .inl (cI, 10, .inl (M 9)))] H → va_D A [(h1, .inr (1, [.ref k0, .ref k1, .ref k2, .ref k3, .ref k4, .ref k5, .ref k6, .ref k7, .int num])), (k7, .inl (cI, 10, .inl pw3)), (k6, .inl (cQ, 10, .inr (.inr (.inr (.inr (fun i => if i < 10 then some (R i) else none)))))), ((R 0), .inl (cI, 10, .inl (M 0))), ((R 1), .inl (cI, 10, .inl (M 1))), ((R 2), .inl (cI, 10, .inl (M 2))), ((R 3), .inl (cI, 10, .inl (M 3))), ((R 4), .inl (cI, 10, .inl (M 4))), ((R 5), .inl (cI, 10, .inl (M 5))), ((R 6), .inl (cI, 10, .inl (M 6))), ((R 7), .inl (cI, 10, .inl (M 7))), ((R 8), .inl (cI, 10, .inl (M 8))), ((R 9), .inl (cI, 10, .inl (M 9)))] → va_S A s.heap H locs → lv_has ls 4 [(0, .ref h1), (1, .int j1), (2, .int j2), (3, .int j3)] → GW H locs 0 0 (F0 m 22 ls []) := by
                intro n_22
                induction n_22 with
                | zero => intro j3 pw3 H locs ls hn_22; exact absurd hn_22 (Nat.not_lt_zero _)
                | succ n_22 ih_22 =>
                  intro j3 pw3 H locs ls hn_22 h0j3 hj3 hp3 hP hD hS hl
                  refine hIn _ _ _ _ _ ?_
                  refine lv_iload_n hx hb dX1_lengthenWays_22 rfl (lv_at hl 3 rfl) ?_
                  refine lv_aload_n hx hb dX1_lengthenWays_23 rfl (lv_at hl 0 rfl) ?_
                  refine va_get (D := D) (ci := 1) (v := .int num) (C := RX1) (T := TX1) (N := 9) hx hb hts iw_X1_lengthenWays_1 hown hK hP 0 rfl rfl 8 (by decide) (hts _ wd_X1_lengthenWays_1) (fun _ h9 => h9) rfl dX1_lengthenWays_24 ?_
                  refine lv_icmp_ge (tgt := 88) hx hb dX1_lengthenWays_27 (by decide) (fun c_4 => ?_) (fun c_4 => ?_)
                  · obtain ⟨v_5, ev_5⟩ : ∃ y : Int32, y = j2 + 1 := ⟨_, rfl⟩
                    refine lv_iinc (v := v_5) (lv' := [(2, .int v_5), (0, .ref h1), (1, .int j1), (3, .int j3)]) hx hb dX1_lengthenWays_88 hl (k := 2) rfl (by rw [ev_5]; rfl) (by decide) rfl (fun ls hl => ?_)
                    refine lv_goto (tgt := 12) hx hb dX1_lengthenWays_91 (by decide) ?_
                    exact hOut _ _ _ _ _ (ih_12 v_5 pw3 _ _ _ (pf_X1_lengthenWays_7 num p7 M n_2 j1 pw n_12 j2 pw2 n_22 j3 pw3 v_5 hn0 hn1 hn_2 h0j1 hj1 hj1b hp1 c_1 hn_12 h0j2 hj2 hp2 c_2 hn_22 h0j3 hj3 hp3 c_4 ev_5) (pf_X1_lengthenWays_8 num p7 M n_2 j1 pw n_12 j2 pw2 n_22 j3 pw3 v_5 hn0 hn1 hn_2 h0j1 hj1 hj1b hp1 c_1 hn_12 h0j2 hj2 hp2 c_2 hn_22 h0j3 hj3 hp3 c_4 ev_5) (pf_X1_lengthenWays_9 num p7 M n_2 j1 pw n_12 j2 pw2 n_22 j3 pw3 v_5 hn0 hn1 hn_2 h0j1 hj1 hj1b hp1 c_1 hn_12 h0j2 hj2 hp2 c_2 hn_22 h0j3 hj3 hp3 c_4 ev_5) (pf_X1_lengthenWays_10 num p7 M n_2 j1 pw n_12 j2 pw2 n_22 j3 pw3 v_5 hn0 hn1 hn_2 h0j1 hj1 hj1b hp1 c_1 hn_12 h0j2 hj2 hp2 c_2 hn_22 h0j3 hj3 hp3 c_4 ev_5) (hP.sub [0, 1, 2, 3, 4, 5, 6, 7, 8, 9, 10, 11, 12] rfl) (hD.sub [0, 1, 2, 3, 4, 5, 6, 7, 8, 9, 10, 11, 12] (by decide) rfl) hS (lv_sub hl [1, 2, 0] rfl))
                  · refine lv_aload_n hx hb dX1_lengthenWays_30 rfl (lv_at hl 0 rfl) ?_
                    refine va_get (D := D) (ci := 1) (v := .ref k7) (C := RX1) (T := TX1) (N := 9) hx hb hts iw_X1_lengthenWays_1 hown hK hP 0 rfl rfl 7 (by decide) (hts _ wd_X1_lengthenWays_2) (fun _ h9 => h9) rfl dX1_lengthenWays_31 ?_
                    refine lv_iload_n hx hb dX1_lengthenWays_34 rfl (lv_at hl 2 rfl) ?_
                    refine va_iald hx hb hK hP 1 0 rfl rfl (pf_X1_lengthenWays_11 num p7 M n_2 j1 pw n_12 j2 pw2 n_22 j3 pw3 hn0 hn1 hn_2 h0j1 hj1 hj1b hp1 c_1 hn_12 h0j2 hj2 hp2 c_2 hn_22 h0j3 hj3 hp3 c_4) dX1_lengthenWays_35 ?_
                    refine lv_topi (fun v_6 ev_6 => ?_)
                    refine lv_iconst (v := (-1)) hx hb dX1_lengthenWays_36 (by decide) ?_
                    refine lv_icmp_eq (tgt := 82) hx hb dX1_lengthenWays_37 (by decide) (fun c_7 => ?_) (fun c_7 => ?_)
                    · obtain ⟨v_8, ev_8⟩ : ∃ y : Int32, y = j3 + 1 := ⟨_, rfl⟩
                      refine lv_iinc (v := v_8) (lv' := [(3, .int v_8), (0, .ref h1), (1, .int j1), (2, .int j2)]) hx hb dX1_lengthenWays_82 hl (k := 3) rfl (by rw [ev_8]; rfl) (by decide) rfl (fun ls hl => ?_)
                      refine lv_goto (tgt := 22) hx hb dX1_lengthenWays_85 (by decide) ?_
                      exact hOut _ _ _ _ _ (ih_22 v_8 pw3 _ _ _ (pf_X1_lengthenWays_12 num p7 M n_2 j1 pw n_12 j2 pw2 n_22 j3 pw3 v_6 v_8 hn0 hn1 hn_2 h0j1 hj1 hj1b hp1 c_1 hn_12 h0j2 hj2 hp2 c_2 hn_22 h0j3 hj3 hp3 c_4 ev_6 c_7 ev_8) (pf_X1_lengthenWays_13 num p7 M n_2 j1 pw n_12 j2 pw2 n_22 j3 pw3 v_6 v_8 hn0 hn1 hn_2 h0j1 hj1 hj1b hp1 c_1 hn_12 h0j2 hj2 hp2 c_2 hn_22 h0j3 hj3 hp3 c_4 ev_6 c_7 ev_8) (pf_X1_lengthenWays_14 num p7 M n_2 j1 pw n_12 j2 pw2 n_22 j3 pw3 v_6 v_8 hn0 hn1 hn_2 h0j1 hj1 hj1b hp1 c_1 hn_12 h0j2 hj2 hp2 c_2 hn_22 h0j3 hj3 hp3 c_4 ev_6 c_7 ev_8) (pf_X1_lengthenWays_15 num p7 M n_2 j1 pw n_12 j2 pw2 n_22 j3 pw3 v_6 v_8 hn0 hn1 hn_2 h0j1 hj1 hj1b hp1 c_1 hn_12 h0j2 hj2 hp2 c_2 hn_22 h0j3 hj3 hp3 c_4 ev_6 c_7 ev_8) (hP.sub [0, 1, 2, 3, 4, 5, 6, 7, 8, 9, 10, 11, 12] rfl) (hD.sub [0, 1, 2, 3, 4, 5, 6, 7, 8, 9, 10, 11, 12] (by decide) rfl) hS (lv_sub hl [1, 2, 3, 0] rfl))
                    · refine lv_aload_n hx hb dX1_lengthenWays_40 rfl (lv_at hl 0 rfl) ?_
                      refine va_get (D := D) (ci := 1) (v := .ref k6) (C := RX1) (T := TX1) (N := 9) hx hb hts iw_X1_lengthenWays_1 hown hK hP 0 rfl rfl 6 (by decide) (hts _ wd_X1_lengthenWays_3) (fun _ h9 => h9) rfl dX1_lengthenWays_41 ?_
                      refine lv_iload_n hx hb dX1_lengthenWays_44 rfl (lv_at hl 2 rfl) ?_
                      refine va_aldA hx hb hK hP 2 1 rfl rfl (pf_X1_lengthenWays_16 num p7 M n_2 j1 pw n_12 j2 pw2 n_22 j3 pw3 v_6 hn0 hn1 hn_2 h0j1 hj1 hj1b hp1 c_1 hn_12 h0j2 hj2 hp2 c_2 hn_22 h0j3 hj3 hp3 c_4 ev_6 c_7) dX1_lengthenWays_45 ?_
                      rw [row_ref (pf_X1_lengthenWays_16 num p7 M n_2 j1 pw n_12 j2 pw2 n_22 j3 pw3 v_6 hn0 hn1 hn_2 h0j1 hj1 hj1b hp1 c_1 hn_12 h0j2 hj2 hp2 c_2 hn_22 h0j3 hj3 hp3 c_4 ev_6 c_7)]
                      refine lv_iload_n hx hb dX1_lengthenWays_46 rfl (lv_at hl 3 rfl) ?_
                      refine va_iald hx hb hK hP (3 + j2.toNatClampNeg) 0 (rows10 (P := fun i9 => ([(h1, .inr (1, [.ref k0, .ref k1, .ref k2, .ref k3, .ref k4, .ref k5, .ref k6, .ref k7, .int num])), (k7, .inl (cI, 10, .inl pw3)), (k6, .inl (cQ, 10, .inr (.inr (.inr (.inr (fun i => if i < 10 then some (R i) else none)))))), ((R 0), .inl (cI, 10, .inl (M 0))), ((R 1), .inl (cI, 10, .inl (M 1))), ((R 2), .inl (cI, 10, .inl (M 2))), ((R 3), .inl (cI, 10, .inl (M 3))), ((R 4), .inl (cI, 10, .inl (M 4))), ((R 5), .inl (cI, 10, .inl (M 5))), ((R 6), .inl (cI, 10, .inl (M 6))), ((R 7), .inl (cI, 10, .inl (M 7))), ((R 8), .inl (cI, 10, .inl (M 8))), ((R 9), .inl (cI, 10, .inl (M 9)))] : va_W)[3 + i9]? = some (R i9, .inl (cI, 10, .inl (M i9)))) rfl rfl rfl rfl rfl rfl rfl rfl rfl rfl _ (pf_X1_lengthenWays_17 num p7 M n_2 j1 pw n_12 j2 pw2 n_22 j3 pw3 v_6 hn0 hn1 hn_2 h0j1 hj1 hj1b hp1 c_1 hn_12 h0j2 hj2 hp2 c_2 hn_22 h0j3 hj3 hp3 c_4 ev_6 c_7)) rfl (pf_X1_lengthenWays_18 num p7 M n_2 j1 pw n_12 j2 pw2 n_22 j3 pw3 v_6 hn0 hn1 hn_2 h0j1 hj1 hj1b hp1 c_1 hn_12 h0j2 hj2 hp2 c_2 hn_22 h0j3 hj3 hp3 c_4 ev_6 c_7) dX1_lengthenWays_47 ?_
                      refine lv_topi (fun v_9 ev_9 => ?_)
                      refine lv_iconst (v := (-1)) hx hb dX1_lengthenWays_48 (by decide) ?_
                      refine lv_icmp_eq (tgt := 82) hx hb dX1_lengthenWays_49 (by decide) (fun c_10 => ?_) (fun c_10 => ?_)
                      · obtain ⟨v_11, ev_11⟩ : ∃ y : Int32, y = j3 + 1 := ⟨_, rfl⟩
                        refine lv_iinc (v := v_11) (lv' := [(3, .int v_11), (0, .ref h1), (1, .int j1), (2, .int j2)]) hx hb dX1_lengthenWays_82 hl (k := 3) rfl (by rw [ev_11]; rfl) (by decide) rfl (fun ls hl => ?_)
                        refine lv_goto (tgt := 22) hx hb dX1_lengthenWays_85 (by decide) ?_
                        exact hOut _ _ _ _ _ (ih_22 v_11 pw3 _ _ _ (pf_X1_lengthenWays_19 num p7 M n_2 j1 pw n_12 j2 pw2 n_22 j3 pw3 v_6 v_9 v_11 hn0 hn1 hn_2 h0j1 hj1 hj1b hp1 c_1 hn_12 h0j2 hj2 hp2 c_2 hn_22 h0j3 hj3 hp3 c_4 ev_6 c_7 ev_9 c_10 ev_11) (pf_X1_lengthenWays_20 num p7 M n_2 j1 pw n_12 j2 pw2 n_22 j3 pw3 v_6 v_9 v_11 hn0 hn1 hn_2 h0j1 hj1 hj1b hp1 c_1 hn_12 h0j2 hj2 hp2 c_2 hn_22 h0j3 hj3 hp3 c_4 ev_6 c_7 ev_9 c_10 ev_11) (pf_X1_lengthenWays_21 num p7 M n_2 j1 pw n_12 j2 pw2 n_22 j3 pw3 v_6 v_9 v_11 hn0 hn1 hn_2 h0j1 hj1 hj1b hp1 c_1 hn_12 h0j2 hj2 hp2 c_2 hn_22 h0j3 hj3 hp3 c_4 ev_6 c_7 ev_9 c_10 ev_11) (pf_X1_lengthenWays_22 num p7 M n_2 j1 pw n_12 j2 pw2 n_22 j3 pw3 v_6 v_9 v_11 hn0 hn1 hn_2 h0j1 hj1 hj1b hp1 c_1 hn_12 h0j2 hj2 hp2 c_2 hn_22 h0j3 hj3 hp3 c_4 ev_6 c_7 ev_9 c_10 ev_11) (hP.sub [0, 1, 2, 3, 4, 5, 6, 7, 8, 9, 10, 11, 12] rfl) (hD.sub [0, 1, 2, 3, 4, 5, 6, 7, 8, 9, 10, 11, 12] (by decide) rfl) hS (lv_sub hl [1, 2, 3, 0] rfl))
                      · refine lv_aload_n hx hb dX1_lengthenWays_52 rfl (lv_at hl 0 rfl) ?_
                        refine va_get (D := D) (ci := 1) (v := .ref k7) (C := RX1) (T := TX1) (N := 9) hx hb hts iw_X1_lengthenWays_1 hown hK hP 0 rfl rfl 7 (by decide) (hts _ wd_X1_lengthenWays_2) (fun _ h9 => h9) rfl dX1_lengthenWays_53 ?_
                        refine lv_iload_n hx hb dX1_lengthenWays_56 rfl (lv_at hl 3 rfl) ?_
                        refine lv_aload_n hx hb dX1_lengthenWays_57 rfl (lv_at hl 0 rfl) ?_
                        refine va_get (D := D) (ci := 1) (v := .ref k7) (C := RX1) (T := TX1) (N := 9) hx hb hts iw_X1_lengthenWays_1 hown hK hP 0 rfl rfl 7 (by decide) (hts _ wd_X1_lengthenWays_2) (fun _ h9 => h9) rfl dX1_lengthenWays_58 ?_
                        refine lv_iload_n hx hb dX1_lengthenWays_61 rfl (lv_at hl 3 rfl) ?_
                        refine va_iald hx hb hK hP 1 0 rfl rfl (pf_X1_lengthenWays_23 num p7 M n_2 j1 pw n_12 j2 pw2 n_22 j3 pw3 v_6 v_9 hn0 hn1 hn_2 h0j1 hj1 hj1b hp1 c_1 hn_12 h0j2 hj2 hp2 c_2 hn_22 h0j3 hj3 hp3 c_4 ev_6 c_7 ev_9 c_10) dX1_lengthenWays_62 ?_
                        refine lv_topi (fun v_12 ev_12 => ?_)
                        refine lv_aload_n hx hb dX1_lengthenWays_63 rfl (lv_at hl 0 rfl) ?_
                        refine va_get (D := D) (ci := 1) (v := .ref k7) (C := RX1) (T := TX1) (N := 9) hx hb hts iw_X1_lengthenWays_1 hown hK hP 0 rfl rfl 7 (by decide) (hts _ wd_X1_lengthenWays_2) (fun _ h9 => h9) rfl dX1_lengthenWays_64 ?_
                        refine lv_iload_n hx hb dX1_lengthenWays_67 rfl (lv_at hl 2 rfl) ?_
                        refine va_iald hx hb hK hP 1 0 rfl rfl (pf_X1_lengthenWays_24 num p7 M n_2 j1 pw n_12 j2 pw2 n_22 j3 pw3 v_6 v_9 v_12 hn0 hn1 hn_2 h0j1 hj1 hj1b hp1 c_1 hn_12 h0j2 hj2 hp2 c_2 hn_22 h0j3 hj3 hp3 c_4 ev_6 c_7 ev_9 c_10 ev_12) dX1_lengthenWays_68 ?_
                        refine lv_topi (fun v_13 ev_13 => ?_)
                        refine lv_aload_n hx hb dX1_lengthenWays_69 rfl (lv_at hl 0 rfl) ?_
                        refine va_get (D := D) (ci := 1) (v := .ref k6) (C := RX1) (T := TX1) (N := 9) hx hb hts iw_X1_lengthenWays_1 hown hK hP 0 rfl rfl 6 (by decide) (hts _ wd_X1_lengthenWays_3) (fun _ h9 => h9) rfl dX1_lengthenWays_70 ?_
                        refine lv_iload_n hx hb dX1_lengthenWays_73 rfl (lv_at hl 2 rfl) ?_
                        refine va_aldA hx hb hK hP 2 1 rfl rfl (pf_X1_lengthenWays_25 num p7 M n_2 j1 pw n_12 j2 pw2 n_22 j3 pw3 v_6 v_9 v_12 v_13 hn0 hn1 hn_2 h0j1 hj1 hj1b hp1 c_1 hn_12 h0j2 hj2 hp2 c_2 hn_22 h0j3 hj3 hp3 c_4 ev_6 c_7 ev_9 c_10 ev_12 ev_13) dX1_lengthenWays_74 ?_
                        rw [row_ref (pf_X1_lengthenWays_25 num p7 M n_2 j1 pw n_12 j2 pw2 n_22 j3 pw3 v_6 v_9 v_12 v_13 hn0 hn1 hn_2 h0j1 hj1 hj1b hp1 c_1 hn_12 h0j2 hj2 hp2 c_2 hn_22 h0j3 hj3 hp3 c_4 ev_6 c_7 ev_9 c_10 ev_12 ev_13)]
                        refine lv_iload_n hx hb dX1_lengthenWays_75 rfl (lv_at hl 3 rfl) ?_
                        refine va_iald hx hb hK hP (3 + j2.toNatClampNeg) 0 (rows10 (P := fun i9 => ([(h1, .inr (1, [.ref k0, .ref k1, .ref k2, .ref k3, .ref k4, .ref k5, .ref k6, .ref k7, .int num])), (k7, .inl (cI, 10, .inl pw3)), (k6, .inl (cQ, 10, .inr (.inr (.inr (.inr (fun i => if i < 10 then some (R i) else none)))))), ((R 0), .inl (cI, 10, .inl (M 0))), ((R 1), .inl (cI, 10, .inl (M 1))), ((R 2), .inl (cI, 10, .inl (M 2))), ((R 3), .inl (cI, 10, .inl (M 3))), ((R 4), .inl (cI, 10, .inl (M 4))), ((R 5), .inl (cI, 10, .inl (M 5))), ((R 6), .inl (cI, 10, .inl (M 6))), ((R 7), .inl (cI, 10, .inl (M 7))), ((R 8), .inl (cI, 10, .inl (M 8))), ((R 9), .inl (cI, 10, .inl (M 9)))] : va_W)[3 + i9]? = some (R i9, .inl (cI, 10, .inl (M i9)))) rfl rfl rfl rfl rfl rfl rfl rfl rfl rfl _ (pf_X1_lengthenWays_26 num p7 M n_2 j1 pw n_12 j2 pw2 n_22 j3 pw3 v_6 v_9 v_12 v_13 hn0 hn1 hn_2 h0j1 hj1 hj1b hp1 c_1 hn_12 h0j2 hj2 hp2 c_2 hn_22 h0j3 hj3 hp3 c_4 ev_6 c_7 ev_9 c_10 ev_12 ev_13)) rfl (pf_X1_lengthenWays_27 num p7 M n_2 j1 pw n_12 j2 pw2 n_22 j3 pw3 v_6 v_9 v_12 v_13 hn0 hn1 hn_2 h0j1 hj1 hj1b hp1 c_1 hn_12 h0j2 hj2 hp2 c_2 hn_22 h0j3 hj3 hp3 c_4 ev_6 c_7 ev_9 c_10 ev_12 ev_13) dX1_lengthenWays_76 ?_
                        refine lv_topi (fun v_14 ev_14 => ?_)
                        refine lv_iadd hx hb dX1_lengthenWays_77 ?_
                        refine lv_topi (fun v_15 ev_15 => ?_)
                        refine va_mmax hx hb (by rw [hml]; exact hl.1.symm) hown (hts _ wd_X1_lengthenWays_4) (hts _ wd_X1_lengthenWays_5) (hts _ wd_X1_lengthenWays_6) (hts _ wd_X1_lengthenWays_7) (Nat.le_of_ble_eq_true rfl) (Nat.le_of_ble_eq_true rfl) (Nat.le_of_ble_eq_true rfl) (Nat.le_of_ble_eq_true rfl) dX1_lengthenWays_78 ?_
                        refine lv_topi (fun v_16 ev_16 => ?_)
                        refine va_iast hx hb hK hP hD hS 1 0 rfl rfl (pf_X1_lengthenWays_28 num p7 M n_2 j1 pw n_12 j2 pw2 n_22 j3 pw3 v_6 v_9 v_12 v_13 v_14 v_15 v_16 hn0 hn1 hn_2 h0j1 hj1 hj1b hp1 c_1 hn_12 h0j2 hj2 hp2 c_2 hn_22 h0j3 hj3 hp3 c_4 ev_6 c_7 ev_9 c_10 ev_12 ev_13 ev_14 ev_15 ev_16) dX1_lengthenWays_81 (fun H locs hP hD hS => ?_)
                        have hP : va_P D vwCl [(h1, .inr (1, [.ref k0, .ref k1, .ref k2, .ref k3, .ref k4, .ref k5, .ref k6, .ref k7, .int num])), (k7, .inl (cI, 10, .inl (upd pw3 j3.toNatClampNeg v_16))), (k6, .inl (cQ, 10, .inr (.inr (.inr (.inr (fun i => if i < 10 then some (R i) else none)))))), ((R 0), .inl (cI, 10, .inl (M 0))), ((R 1), .inl (cI, 10, .inl (M 1))), ((R 2), .inl (cI, 10, .inl (M 2))), ((R 3), .inl (cI, 10, .inl (M 3))), ((R 4), .inl (cI, 10, .inl (M 4))), ((R 5), .inl (cI, 10, .inl (M 5))), ((R 6), .inl (cI, 10, .inl (M 6))), ((R 7), .inl (cI, 10, .inl (M 7))), ((R 8), .inl (cI, 10, .inl (M 8))), ((R 9), .inl (cI, 10, .inl (M 9)))] H := hP
                        have hD : va_D A [(h1, .inr (1, [.ref k0, .ref k1, .ref k2, .ref k3, .ref k4, .ref k5, .ref k6, .ref k7, .int num])), (k7, .inl (cI, 10, .inl (upd pw3 j3.toNatClampNeg v_16))), (k6, .inl (cQ, 10, .inr (.inr (.inr (.inr (fun i => if i < 10 then some (R i) else none)))))), ((R 0), .inl (cI, 10, .inl (M 0))), ((R 1), .inl (cI, 10, .inl (M 1))), ((R 2), .inl (cI, 10, .inl (M 2))), ((R 3), .inl (cI, 10, .inl (M 3))), ((R 4), .inl (cI, 10, .inl (M 4))), ((R 5), .inl (cI, 10, .inl (M 5))), ((R 6), .inl (cI, 10, .inl (M 6))), ((R 7), .inl (cI, 10, .inl (M 7))), ((R 8), .inl (cI, 10, .inl (M 8))), ((R 9), .inl (cI, 10, .inl (M 9)))] := hD
                        obtain ⟨v_17, ev_17⟩ : ∃ y : Int32, y = j3 + 1 := ⟨_, rfl⟩
                        refine lv_iinc (v := v_17) (lv' := [(3, .int v_17), (0, .ref h1), (1, .int j1), (2, .int j2)]) hx hb dX1_lengthenWays_82 hl (k := 3) rfl (by rw [ev_17]; rfl) (by decide) rfl (fun ls hl => ?_)
                        refine lv_goto (tgt := 22) hx hb dX1_lengthenWays_85 (by decide) ?_
                        exact hOut _ _ _ _ _ (ih_22 v_17 (upd pw3 j3.toNatClampNeg v_16) _ _ _ (pf_X1_lengthenWays_29 num p7 M n_2 j1 pw n_12 j2 pw2 n_22 j3 pw3 v_6 v_9 v_12 v_13 v_14 v_15 v_16 v_17 hn0 hn1 hn_2 h0j1 hj1 hj1b hp1 c_1 hn_12 h0j2 hj2 hp2 c_2 hn_22 h0j3 hj3 hp3 c_4 ev_6 c_7 ev_9 c_10 ev_12 ev_13 ev_14 ev_15 ev_16 ev_17) (pf_X1_lengthenWays_30 num p7 M n_2 j1 pw n_12 j2 pw2 n_22 j3 pw3 v_6 v_9 v_12 v_13 v_14 v_15 v_16 v_17 hn0 hn1 hn_2 h0j1 hj1 hj1b hp1 c_1 hn_12 h0j2 hj2 hp2 c_2 hn_22 h0j3 hj3 hp3 c_4 ev_6 c_7 ev_9 c_10 ev_12 ev_13 ev_14 ev_15 ev_16 ev_17) (pf_X1_lengthenWays_31 num p7 M n_2 j1 pw n_12 j2 pw2 n_22 j3 pw3 v_6 v_9 v_12 v_13 v_14 v_15 v_16 v_17 hn0 hn1 hn_2 h0j1 hj1 hj1b hp1 c_1 hn_12 h0j2 hj2 hp2 c_2 hn_22 h0j3 hj3 hp3 c_4 ev_6 c_7 ev_9 c_10 ev_12 ev_13 ev_14 ev_15 ev_16 ev_17) (pf_X1_lengthenWays_32 num p7 M n_2 j1 pw n_12 j2 pw2 n_22 j3 pw3 v_6 v_9 v_12 v_13 v_14 v_15 v_16 v_17 hn0 hn1 hn_2 h0j1 hj1 hj1b hp1 c_1 hn_12 h0j2 hj2 hp2 c_2 hn_22 h0j3 hj3 hp3 c_4 ev_6 c_7 ev_9 c_10 ev_12 ev_13 ev_14 ev_15 ev_16 ev_17) (hP.sub [0, 1, 2, 3, 4, 5, 6, 7, 8, 9, 10, 11, 12] rfl) (hD.sub [0, 1, 2, 3, 4, 5, 6, 7, 8, 9, 10, 11, 12] (by decide) rfl) hS (lv_sub hl [1, 2, 3, 0] rfl))
              exact hOut _ _ _ _ _ (lp_22 (10 - (0 : Int32).toNatClampNeg + 1) 0 pw2 _ _ _ (Nat.lt_succ_self _) (pf_X1_lengthenWays_33 num p7 M n_2 j1 pw n_12 j2 pw2 hn0 hn1 hn_2 h0j1 hj1 hj1b hp1 c_1 hn_12 h0j2 hj2 hp2 c_2) (pf_X1_lengthenWays_34 num p7 M n_2 j1 pw n_12 j2 pw2 hn0 hn1 hn_2 h0j1 hj1 hj1b hp1 c_1 hn_12 h0j2 hj2 hp2 c_2) (pf_X1_lengthenWays_35 num p7 M n_2 j1 pw n_12 j2 pw2 hn0 hn1 hn_2 h0j1 hj1 hj1b hp1 c_1 hn_12 h0j2 hj2 hp2 c_2) (hP.sub [0, 1, 2, 3, 4, 5, 6, 7, 8, 9, 10, 11, 12] rfl) (hD.sub [0, 1, 2, 3, 4, 5, 6, 7, 8, 9, 10, 11, 12] (by decide) rfl) hS (lv_sub hl [1, 2, 3, 0] rfl))
        exact hOut _ _ _ _ _ (lp_12 (10 - (0 : Int32).toNatClampNeg + 1) 0 pw _ _ _ (Nat.lt_succ_self _) (pf_X1_lengthenWays_36 num p7 M n_2 j1 pw hn0 hn1 hn_2 h0j1 hj1 hj1b hp1 c_1) (pf_X1_lengthenWays_37 num p7 M n_2 j1 pw hn0 hn1 hn_2 h0j1 hj1 hj1b hp1 c_1) (pf_X1_lengthenWays_38 num p7 M n_2 j1 pw hn0 hn1 hn_2 h0j1 hj1 hj1b hp1 c_1) (hP.sub [0, 1, 2, 3, 4, 5, 6, 7, 8, 9, 10, 11, 12] rfl) (hD.sub [0, 1, 2, 3, 4, 5, 6, 7, 8, 9, 10, 11, 12] (by decide) rfl) hS (lv_sub hl [1, 2, 0] rfl))
  exact hOut _ _ _ _ _ (lp_2 (10 - (1 : Int32).toNatClampNeg + 1) 1 p7 _ _ _ (Nat.lt_succ_self _) (pf_X1_lengthenWays_39 num hn0 hn1) (pf_X1_lengthenWays_40 num hn0 hn1) (pf_X1_lengthenWays_41 num hn0 hn1) (pf_X1_lengthenWays_42 num p7 M hn0 hn1) (hP.sub [0, 1, 2, 3, 4, 5, 6, 7, 8, 9, 10, 11, 12] rfl) (hD.sub [0, 1, 2, 3, 4, 5, 6, 7, 8, 9, 10, 11, 12] (by decide) rfl) hS (lv_sub hl [1, 0] rfl))

theorem iw_X1_mustLead_1 : ∀ w ∈ wsX10, w ∈ wsX1_mustLead := fun w h => (List.mem_cons_of_mem _ (List.mem_append_right _ h))
theorem wd_X1_mustLead_1 : (.fieldLink RX1 38 "PourPlan$Pieces" "number" "I" : Cond) ∈ wsX1_mustLead := List.mem_of_getElem? (i := 1) rfl
theorem wd_X1_mustLead_2 : (.fieldLink RX1 35 "PourPlan$Pieces" "ways" "[I" : Cond) ∈ wsX1_mustLead := List.mem_of_getElem? (i := 2) rfl
set_option maxHeartbeats 1000000 in
theorem pf_X1_mustLead_1 (num : Int32) (M : Nat → Nat → Int32) (a : Int32) (b1 : Int32) (n_2 : Nat) (k : Int32) (pw : Nat → Int32) (hn0 : 0 ≤ num) (hn1 : num ≤ 10) (ha0 : 0 ≤ a) (ha1 : a < num) (hb0 : 0 ≤ b1) (hb1 : b1 < num) (hM : okLd M) (hn_2 : 10 - k.toNatClampNeg < n_2 + 1) (h0k : 0 ≤ k) (hk : k ≤ num) (hw : ∀ i : Nat, i < k.toNatClampNeg → pw i = -1) (c_1 : num ≤ k) : vp_in a 10 := by
  exact vi_in (M := 10) rfl (by grind) (by grind)
set_option maxHeartbeats 1000000 in
theorem pf_X1_mustLead_2 (num : Int32) (M : Nat → Nat → Int32) (a : Int32) (b1 : Int32) (n_2 : Nat) (k : Int32) (pw : Nat → Int32) (hn0 : 0 ≤ num) (hn1 : num ≤ 10) (ha0 : 0 ≤ a) (ha1 : a < num) (hb0 : 0 ≤ b1) (hb1 : b1 < num) (hM : okLd M) (hn_2 : 10 - k.toNatClampNeg < n_2 + 1) (h0k : 0 ≤ k) (hk : k ≤ num) (hw : ∀ i : Nat, i < k.toNatClampNeg → pw i = -1) (c_1 : num ≤ k) : 0 ≤ num := by
  grind
set_option maxHeartbeats 1000000 in
theorem pf_X1_mustLead_3 (num : Int32) (M : Nat → Nat → Int32) (a : Int32) (b1 : Int32) (n_2 : Nat) (k : Int32) (pw : Nat → Int32) (hn0 : 0 ≤ num) (hn1 : num ≤ 10) (ha0 : 0 ≤ a) (ha1 : a < num) (hb0 : 0 ≤ b1) (hb1 : b1 < num) (hM : okLd M) (hn_2 : 10 - k.toNatClampNeg < n_2 + 1) (h0k : 0 ≤ k) (hk : k ≤ num) (hw : ∀ i : Nat, i < k.toNatClampNeg → pw i = -1) (c_1 : num ≤ k) : num ≤ 10 := by
  grind
set_option maxHeartbeats 1000000 in
theorem pf_X1_mustLead_4 (num : Int32) (M : Nat → Nat → Int32) (a : Int32) (b1 : Int32) (n_2 : Nat) (k : Int32) (pw : Nat → Int32) (q7_4 : Nat → Int32) (hn0 : 0 ≤ num) (hn1 : num ≤ 10) (ha0 : 0 ≤ a) (ha1 : a < num) (hb0 : 0 ≤ b1) (hb1 : b1 < num) (hM : okLd M) (hn_2 : 10 - k.toNatClampNeg < n_2 + 1) (h0k : 0 ≤ k) (hk : k ≤ num) (hw : ∀ i : Nat, i < k.toNatClampNeg → pw i = -1) (c_1 : num ≤ k) (w_3 : q7_4 = r3 M num.toNatClampNeg (upd pw a.toNatClampNeg 0) (num.toNatClampNeg - 1)) : vp_in b1 10 := by
  exact vi_in (M := 10) rfl (by grind) (by grind)
set_option maxHeartbeats 1000000 in
theorem pf_X1_mustLead_5 (num : Int32) (M : Nat → Nat → Int32) (a : Int32) (b1 : Int32) (n_2 : Nat) (k : Int32) (pw : Nat → Int32) (q7_4 : Nat → Int32) (v_6 : Int32) (hn0 : 0 ≤ num) (hn1 : num ≤ 10) (ha0 : 0 ≤ a) (ha1 : a < num) (hb0 : 0 ≤ b1) (hb1 : b1 < num) (hM : okLd M) (hn_2 : 10 - k.toNatClampNeg < n_2 + 1) (h0k : 0 ≤ k) (hk : k ≤ num) (hw : ∀ i : Nat, i < k.toNatClampNeg → pw i = -1) (c_1 : num ≤ k) (w_3 : q7_4 = r3 M num.toNatClampNeg (upd pw a.toNatClampNeg 0) (num.toNatClampNeg - 1)) (ev_6 : v_6 = q7_4 b1.toNatClampNeg) (c_7 : v_6 = (-1)) : ((0 : Int32) = 0 ↔ ¬ rch M num.toNatClampNeg a.toNatClampNeg b1.toNatClampNeg) := by
  have e9 : k = num := by grind
  have h9 := lead_iff (M := M) (n := num.toNatClampNeg) (x := a.toNatClampNeg) (y := b1.toNatClampNeg) (w := upd pw a.toNatClampNeg 0) hM (cl_le (M := 10) (k := 10) rfl hn1) (cl_mono ha0 ha1) (cl_mono hb0 hb1) (fun i hi hne => by rw [upd_ne hne]; exact hw i (by rw [e9]; exact hi)) upd_at
  rw [← h9]
  subst_vars
  grind
set_option maxHeartbeats 1000000 in
theorem pf_X1_mustLead_6 (num : Int32) (M : Nat → Nat → Int32) (a : Int32) (b1 : Int32) (n_2 : Nat) (k : Int32) (pw : Nat → Int32) (q7_4 : Nat → Int32) (v_6 : Int32) (hn0 : 0 ≤ num) (hn1 : num ≤ 10) (ha0 : 0 ≤ a) (ha1 : a < num) (hb0 : 0 ≤ b1) (hb1 : b1 < num) (hM : okLd M) (hn_2 : 10 - k.toNatClampNeg < n_2 + 1) (h0k : 0 ≤ k) (hk : k ≤ num) (hw : ∀ i : Nat, i < k.toNatClampNeg → pw i = -1) (c_1 : num ≤ k) (w_3 : q7_4 = r3 M num.toNatClampNeg (upd pw a.toNatClampNeg 0) (num.toNatClampNeg - 1)) (ev_6 : v_6 = q7_4 b1.toNatClampNeg) (c_7 : ¬ v_6 = (-1)) : ((1 : Int32) = 0 ↔ ¬ rch M num.toNatClampNeg a.toNatClampNeg b1.toNatClampNeg) := by
  have e9 : k = num := by grind
  have h9 := lead_iff (M := M) (n := num.toNatClampNeg) (x := a.toNatClampNeg) (y := b1.toNatClampNeg) (w := upd pw a.toNatClampNeg 0) hM (cl_le (M := 10) (k := 10) rfl hn1) (cl_mono ha0 ha1) (cl_mono hb0 hb1) (fun i hi hne => by rw [upd_ne hne]; exact hw i (by rw [e9]; exact hi)) upd_at
  rw [← h9]
  subst_vars
  grind
set_option maxHeartbeats 1000000 in
theorem pf_X1_mustLead_7 (num : Int32) (M : Nat → Nat → Int32) (a : Int32) (b1 : Int32) (n_2 : Nat) (k : Int32) (pw : Nat → Int32) (hn0 : 0 ≤ num) (hn1 : num ≤ 10) (ha0 : 0 ≤ a) (ha1 : a < num) (hb0 : 0 ≤ b1) (hb1 : b1 < num) (hM : okLd M) (hn_2 : 10 - k.toNatClampNeg < n_2 + 1) (h0k : 0 ≤ k) (hk : k ≤ num) (hw : ∀ i : Nat, i < k.toNatClampNeg → pw i = -1) (c_1 : ¬ num ≤ k) : vp_in k 10 := by
  exact vi_in (M := 10) rfl (by grind) (by grind)
set_option maxHeartbeats 1000000 in
theorem pf_X1_mustLead_8 (num : Int32) (M : Nat → Nat → Int32) (a : Int32) (b1 : Int32) (n_2 : Nat) (k : Int32) (pw : Nat → Int32) (v_8 : Int32) (hn0 : 0 ≤ num) (hn1 : num ≤ 10) (ha0 : 0 ≤ a) (ha1 : a < num) (hb0 : 0 ≤ b1) (hb1 : b1 < num) (hM : okLd M) (hn_2 : 10 - k.toNatClampNeg < n_2 + 1) (h0k : 0 ≤ k) (hk : k ≤ num) (hw : ∀ i : Nat, i < k.toNatClampNeg → pw i = -1) (c_1 : ¬ num ≤ k) (ev_8 : v_8 = k + 1) : 10 - v_8.toNatClampNeg < n_2 := by
  exact ms_dec (L := 10) (k := k) (by grind) (show ¬ (10 : Int32) ≤ k by grind) (by omega) (by assumption) hn_2
set_option maxHeartbeats 1000000 in
theorem pf_X1_mustLead_9 (num : Int32) (M : Nat → Nat → Int32) (a : Int32) (b1 : Int32) (n_2 : Nat) (k : Int32) (pw : Nat → Int32) (v_8 : Int32) (hn0 : 0 ≤ num) (hn1 : num ≤ 10) (ha0 : 0 ≤ a) (ha1 : a < num) (hb0 : 0 ≤ b1) (hb1 : b1 < num) (hM : okLd M) (hn_2 : 10 - k.toNatClampNeg < n_2 + 1) (h0k : 0 ≤ k) (hk : k ≤ num) (hw : ∀ i : Nat, i < k.toNatClampNeg → pw i = -1) (c_1 : ¬ num ≤ k) (ev_8 : v_8 = k + 1) : 0 ≤ v_8 := by
  grind
set_option maxHeartbeats 1000000 in
theorem pf_X1_mustLead_10 (num : Int32) (M : Nat → Nat → Int32) (a : Int32) (b1 : Int32) (n_2 : Nat) (k : Int32) (pw : Nat → Int32) (v_8 : Int32) (hn0 : 0 ≤ num) (hn1 : num ≤ 10) (ha0 : 0 ≤ a) (ha1 : a < num) (hb0 : 0 ≤ b1) (hb1 : b1 < num) (hM : okLd M) (hn_2 : 10 - k.toNatClampNeg < n_2 + 1) (h0k : 0 ≤ k) (hk : k ≤ num) (hw : ∀ i : Nat, i < k.toNatClampNeg → pw i = -1) (c_1 : ¬ num ≤ k) (ev_8 : v_8 = k + 1) : v_8 ≤ num := by
  grind
set_option maxHeartbeats 1000000 in
theorem pf_X1_mustLead_11 (num : Int32) (M : Nat → Nat → Int32) (a : Int32) (b1 : Int32) (n_2 : Nat) (k : Int32) (pw : Nat → Int32) (v_8 : Int32) (hn0 : 0 ≤ num) (hn1 : num ≤ 10) (ha0 : 0 ≤ a) (ha1 : a < num) (hb0 : 0 ≤ b1) (hb1 : b1 < num) (hM : okLd M) (hn_2 : 10 - k.toNatClampNeg < n_2 + 1) (h0k : 0 ≤ k) (hk : k ≤ num) (hw : ∀ i : Nat, i < k.toNatClampNeg → pw i = -1) (c_1 : ¬ num ≤ k) (ev_8 : v_8 = k + 1) : ∀ i : Nat, i < v_8.toNatClampNeg → (upd pw k.toNatClampNeg (-1)) i = -1 := by
  exact all_s h0k (by grind) (by assumption) hw
set_option maxHeartbeats 1000000 in
theorem pf_X1_mustLead_12 (num : Int32) (M : Nat → Nat → Int32) (a : Int32) (b1 : Int32) (hn0 : 0 ≤ num) (hn1 : num ≤ 10) (ha0 : 0 ≤ a) (ha1 : a < num) (hb0 : 0 ≤ b1) (hb1 : b1 < num) (hM : okLd M) : 0 ≤ (0 : Int32) := by
  grind
set_option maxHeartbeats 1000000 in
theorem pf_X1_mustLead_13 (num : Int32) (M : Nat → Nat → Int32) (a : Int32) (b1 : Int32) (hn0 : 0 ≤ num) (hn1 : num ≤ 10) (ha0 : 0 ≤ a) (ha1 : a < num) (hb0 : 0 ≤ b1) (hb1 : b1 < num) (hM : okLd M) : (0 : Int32) ≤ num := by
  grind
set_option maxHeartbeats 1000000 in
theorem pf_X1_mustLead_14 (num : Int32) (p7 : Nat → Int32) (M : Nat → Nat → Int32) (a : Int32) (b1 : Int32) (hn0 : 0 ≤ num) (hn1 : num ≤ 10) (ha0 : 0 ≤ a) (ha1 : a < num) (hb0 : 0 ≤ b1) (hb1 : b1 < num) (hM : okLd M) : ∀ i : Nat, i < (0 : Int32).toNatClampNeg → p7 i = -1 := by
  intro i hi
  exact absurd hi (by simp)
set_option maxHeartbeats 4000000 in
set_option maxRecDepth 100000 in
theorem c_X1_mustLead (l : Launch) (D : va_G) (cI cQ : ClassId) (sz : Nat) (h1 : Nat) (k7 : Nat) (k6 : Nat) (k0 : Nat) (k1 : Nat) (k2 : Nat) (k3 : Nat) (k4 : Nat) (k5 : Nat) (num : Int32) (p7 : Nat → Int32) (R : Nat → Nat) (M : Nat → Nat → Int32) (a : Int32) (b1 : Int32) (hn0 : 0 ≤ num) (hn1 : num ≤ 10) (ha0 : 0 ≤ a) (ha1 : a < num) (hb0 : 0 ≤ b1) (hb1 : b1 < num) (hM : okLd M) : CtI l yX1_mustLead wsX1_mustLead 2 44 0 0 [.ref h1, .int a, .int b1] D [(cI, .int), (cQ, .array .int)] [(h1, .inr (1, [.ref k0, .ref k1, .ref k2, .ref k3, .ref k4, .ref k5, .ref k6, .ref k7, .int num])), (k7, .inl (cI, 10, .inl p7)), (k6, .inl (cQ, 10, .inr (.inr (.inr (.inr (fun i => if i < 10 then some (R i) else none)))))), ((R 0), .inl (cI, 10, .inl (M 0))), ((R 1), .inl (cI, 10, .inl (M 1))), ((R 2), .inl (cI, 10, .inl (M 2))), ((R 3), .inl (cI, 10, .inl (M 3))), ((R 4), .inl (cI, 10, .inl (M 4))), ((R 5), .inl (cI, 10, .inl (M 5))), ((R 6), .inl (cI, 10, .inl (M 6))), ((R 7), .inl (cI, 10, .inl (M 7))), ((R 8), .inl (cI, 10, .inl (M 8))), ((R 9), .inl (cI, 10, .inl (M 9)))] sz (fun (r : Int32) (u : (Nat → Int32)) => (r = 0 ↔ ¬ rch M num.toNatClampNeg a.toNatClampNeg b1.toNatClampNeg)) (fun (u : (Nat → Int32)) => [(h1, .inr (1, [.ref k0, .ref k1, .ref k2, .ref k3, .ref k4, .ref k5, .ref k6, .ref k7, .int num])), (k7, .inl (cI, 10, .inl u)), (k6, .inl (cQ, 10, .inr (.inr (.inr (.inr (fun i => if i < 10 then some (R i) else none)))))), ((R 0), .inl (cI, 10, .inl (M 0))), ((R 1), .inl (cI, 10, .inl (M 1))), ((R 2), .inl (cI, 10, .inl (M 2))), ((R 3), .inl (cI, 10, .inl (M 3))), ((R 4), .inl (cI, 10, .inl (M 4))), ((R 5), .inl (cI, 10, .inl (M 5))), ((R 6), .inl (cI, 10, .inl (M 6))), ((R 7), .inl (cI, 10, .inl (M 7))), ((R 8), .inl (cI, 10, .inl (M 8))), ((R 9), .inl (cI, 10, .inl (M 9)))]) := by
  refine Met.ofW (cc := cX1_mustLead) (maxL := 4) (ret := (some .boolean)) (by decide) rfl ?_
  intro p e s m args below meth c s₁ B hml hv
  obtain ⟨rfl, hsz, hP, hK, hD0, hN⟩ := hv
  have hx := B.exec
  have hb := B.bytes
  have hr := B.returns
  have hts := atoms_spec (ws := wsX1_mustLead) B.pre
  have hown : s.vm.findClass RX1 = some m.cls := findClass_of_methodNamed B.named
  have hlocks := B.notSynchronized
  subst hsz
  have hD := hD0.self (sz := s.heap.size)
  generalize hAe : va_A [(h1, .inr (1, [.ref k0, .ref k1, .ref k2, .ref k3, .ref k4, .ref k5, .ref k6, .ref k7, .int num])), (k7, .inl (cI, 10, .inl p7)), (k6, .inl (cQ, 10, .inr (.inr (.inr (.inr (fun i => if i < 10 then some (R i) else none)))))), ((R 0), .inl (cI, 10, .inl (M 0))), ((R 1), .inl (cI, 10, .inl (M 1))), ((R 2), .inl (cI, 10, .inl (M 2))), ((R 3), .inl (cI, 10, .inl (M 3))), ((R 4), .inl (cI, 10, .inl (M 4))), ((R 5), .inl (cI, 10, .inl (M 5))), ((R 6), .inl (cI, 10, .inl (M 6))), ((R 7), .inl (cI, 10, .inl (M 7))), ((R 8), .inl (cI, 10, .inl (M 8))), ((R 9), .inl (cI, 10, .inl (M 9)))] s.heap.size = A at hD ⊢
  have hA : ∀ q : Nat, s.heap.size ≤ q → A q := fun q h => by rw [← hAe]; exact Or.inr h
  have hS : va_S A s.heap s.heap [] := va_S.rf
  have hl := lv_entry ([.ref h1, .int a, .int b1]) (n := 4) (Nat.le_of_ble_eq_true rfl)
  rw [lg_entry_eq]
  generalize (lg_sl ([.ref h1, .int a, .int b1]) ++ List.replicate (4 - (lg_sl ([.ref h1, .int a, .int b1])).length) Slot.unset).toArray = ls at hl ⊢
  have hl : lv_has ls 4 [(0, .ref h1), (1, .int a), (2, .int b1)] := hl
  refine W_gen (fun GW hIn hOut => ?_)
  refine hIn _ _ _ _ _ ?_
  have hP0 := hP
  refine lv_iconst (v := 0) hx hb dX1_mustLead_0 (by decide) ?_
  refine lv_istore_n (lv' := [(3, .int 0), (0, .ref h1), (1, .int a), (2, .int b1)]) hx hb dX1_mustLead_1 rfl hl (by decide) rfl (fun ls hl => ?_)
  have lp_2 : ∀ (n : Nat) (k : Int32) (pw : Nat → Int32) (H : Heap) (locs : List Loc) (ls : Array Slot), 10 - k.toNatClampNeg < n → (0 ≤ k) → (k ≤ num) → (∀ i : Nat, i < k.toNatClampNeg → pw i = -1) → va_P D vwCl [(h1, .inr (1, [.ref k0, .ref k1, .ref k2, .ref k3, .ref k4, .ref k5, .ref k6, .ref k7, .int num])), (k7, .inl (cI, 10, .inl pw)), (k6, .inl (cQ, 10, .inr (.inr (.inr (.inr (fun i => if i < 10 then some (R i) else none)))))), ((R 0), .inl (cI, 10, .inl (M 0))), ((R 1), .inl (cI, 10, .inl (M 1))), ((R 2), .inl (cI, 10, .inl (M 2))), ((R 3), .inl (cI, 10, .inl (M 3))), ((R 4), .inl (cI, 10, .inl (M 4))), ((R 5), .inl (cI, 10, .inl (M 5))), ((R 6), .inl (cI, 10, .inl (M 6))), ((R 7), .inl (cI, 10, .inl (M 7))), ((R 8), .inl (cI, 10, .inl (M 8))), ((R 9), .inl (cI, 10, .inl (M 9)))] H → va_D A [(h1, .inr (1, [.ref k0, .ref k1, .ref k2, .ref k3, .ref k4, .ref k5, .ref k6, .ref k7, .int num])), (k7, .inl (cI, 10, .inl pw)), (k6, .inl (cQ, 10, .inr (.inr (.inr (.inr (fun i => if i < 10 then some (R i) else none)))))), ((R 0), .inl (cI, 10, .inl (M 0))), ((R 1), .inl (cI, 10, .inl (M 1))), ((R 2), .inl (cI, 10, .inl (M 2))), ((R 3), .inl (cI, 10, .inl (M 3))), ((R 4), .inl (cI, 10, .inl (M 4))), ((R 5), .inl (cI, 10, .inl (M 5))), ((R 6), .inl (cI, 10, .inl (M 6))), ((R 7), .inl (cI, 10, .inl (M 7))), ((R 8), .inl (cI, 10, .inl (M 8))), ((R 9), .inl (cI, 10, .inl (M 9)))] → va_S A s.heap H locs → lv_has ls 4 [(0, .ref h1), (1, .int a), (2, .int b1), (3, .int k)] → GW H locs 0 0 (F0 m 2 ls []) := by
    intro n_2
    induction n_2 with
    | zero => intro k pw H locs ls hn_2; exact absurd hn_2 (Nat.not_lt_zero _)
    | succ n_2 ih_2 =>
      intro k pw H locs ls hn_2 h0k hk hw hP hD hS hl
      refine hIn _ _ _ _ _ ?_
      refine lv_iload_n hx hb dX1_mustLead_2 rfl (lv_at hl 3 rfl) ?_
      refine lv_aload_n hx hb dX1_mustLead_3 rfl (lv_at hl 0 rfl) ?_
      refine va_get (D := D) (ci := 1) (v := .int num) (C := RX1) (T := TX1) (N := 9) hx hb hts iw_X1_mustLead_1 hown hK hP 0 rfl rfl 8 (by decide) (hts _ wd_X1_mustLead_1) (fun _ h9 => h9) rfl dX1_mustLead_4 ?_
      refine lv_icmp_ge (tgt := 23) hx hb dX1_mustLead_7 (by decide) (fun c_1 => ?_) (fun c_1 => ?_)
      · refine lv_aload_n hx hb dX1_mustLead_23 rfl (lv_at hl 0 rfl) ?_
        refine va_get (D := D) (ci := 1) (v := .ref k7) (C := RX1) (T := TX1) (N := 9) hx hb hts iw_X1_mustLead_1 hown hK hP 0 rfl rfl 7 (by decide) (hts _ wd_X1_mustLead_2) (fun _ h9 => h9) rfl dX1_mustLead_24 ?_
        refine lv_iload_n hx hb dX1_mustLead_27 rfl (lv_at hl 1 rfl) ?_
        refine lv_iconst (v := 0) hx hb dX1_mustLead_28 (by decide) ?_
        refine va_iast hx hb hK hP hD hS 1 0 rfl rfl (pf_X1_mustLead_1 num M a b1 n_2 k pw hn0 hn1 ha0 ha1 hb0 hb1 hM hn_2 h0k hk hw c_1) dX1_mustLead_29 (fun H locs hP hD hS => ?_)
        have hP : va_P D vwCl [(h1, .inr (1, [.ref k0, .ref k1, .ref k2, .ref k3, .ref k4, .ref k5, .ref k6, .ref k7, .int num])), (k7, .inl (cI, 10, .inl (upd pw a.toNatClampNeg 0))), (k6, .inl (cQ, 10, .inr (.inr (.inr (.inr (fun i => if i < 10 then some (R i) else none)))))), ((R 0), .inl (cI, 10, .inl (M 0))), ((R 1), .inl (cI, 10, .inl (M 1))), ((R 2), .inl (cI, 10, .inl (M 2))), ((R 3), .inl (cI, 10, .inl (M 3))), ((R 4), .inl (cI, 10, .inl (M 4))), ((R 5), .inl (cI, 10, .inl (M 5))), ((R 6), .inl (cI, 10, .inl (M 6))), ((R 7), .inl (cI, 10, .inl (M 7))), ((R 8), .inl (cI, 10, .inl (M 8))), ((R 9), .inl (cI, 10, .inl (M 9)))] H := hP
        have hD : va_D A [(h1, .inr (1, [.ref k0, .ref k1, .ref k2, .ref k3, .ref k4, .ref k5, .ref k6, .ref k7, .int num])), (k7, .inl (cI, 10, .inl (upd pw a.toNatClampNeg 0))), (k6, .inl (cQ, 10, .inr (.inr (.inr (.inr (fun i => if i < 10 then some (R i) else none)))))), ((R 0), .inl (cI, 10, .inl (M 0))), ((R 1), .inl (cI, 10, .inl (M 1))), ((R 2), .inl (cI, 10, .inl (M 2))), ((R 3), .inl (cI, 10, .inl (M 3))), ((R 4), .inl (cI, 10, .inl (M 4))), ((R 5), .inl (cI, 10, .inl (M 5))), ((R 6), .inl (cI, 10, .inl (M 6))), ((R 7), .inl (cI, 10, .inl (M 7))), ((R 8), .inl (cI, 10, .inl (M 8))), ((R 9), .inl (cI, 10, .inl (M 9)))] := hD
        refine lv_aload_n hx hb dX1_mustLead_30 rfl (lv_at hl 0 rfl) ?_
        refine cc_v (wc := [(h1, .inr (1, [.ref k0, .ref k1, .ref k2, .ref k3, .ref k4, .ref k5, .ref k6, .ref k7, .int num])), (k7, .inl (cI, 10, .inl (upd pw a.toNatClampNeg 0))), (k6, .inl (cQ, 10, .inr (.inr (.inr (.inr (fun i => if i < 10 then some (R i) else none)))))), ((R 0), .inl (cI, 10, .inl (M 0))), ((R 1), .inl (cI, 10, .inl (M 1))), ((R 2), .inl (cI, 10, .inl (M 2))), ((R 3), .inl (cI, 10, .inl (M 3))), ((R 4), .inl (cI, 10, .inl (M 4))), ((R 5), .inl (cI, 10, .inl (M 5))), ((R 6), .inl (cI, 10, .inl (M 6))), ((R 7), .inl (cI, 10, .inl (M 7))), ((R 8), .inl (cI, 10, .inl (M 8))), ((R 9), .inl (cI, 10, .inl (M 9)))]) (wr := []) (va_runV (As := []) (rest := []) ⟨hx, hb, hml, hown, hts⟩ (c_X1_lengthenWays l D cI cQ H.size h1 k7 k6 k0 k1 k2 k3 k4 k5 num (upd pw a.toNatClampNeg 0) R M (pf_X1_mustLead_2 num M a b1 n_2 k pw hn0 hn1 ha0 ha1 hb0 hb1 hM hn_2 h0k hk hw c_1) (pf_X1_mustLead_3 num M a b1 n_2 k pw hn0 hn1 ha0 ha1 hb0 hb1 hM hn_2 h0k hk hw c_1)) (cwV 0 hts gX1_mustLead_X1_lengthenWays rfl rfl rfl (by decide +kernel) ⟨Nat.le_of_ble_eq_true rfl, Nat.le_of_ble_eq_true rfl⟩) (preV (wc := [(h1, .inr (1, [.ref k0, .ref k1, .ref k2, .ref k3, .ref k4, .ref k5, .ref k6, .ref k7, .int num])), (k7, .inl (cI, 10, .inl (upd pw a.toNatClampNeg 0))), (k6, .inl (cQ, 10, .inr (.inr (.inr (.inr (fun i => if i < 10 then some (R i) else none)))))), ((R 0), .inl (cI, 10, .inl (M 0))), ((R 1), .inl (cI, 10, .inl (M 1))), ((R 2), .inl (cI, 10, .inl (M 2))), ((R 3), .inl (cI, 10, .inl (M 3))), ((R 4), .inl (cI, 10, .inl (M 4))), ((R 5), .inl (cI, 10, .inl (M 5))), ((R 6), .inl (cI, 10, .inl (M 6))), ((R 7), .inl (cI, 10, .inl (M 7))), ((R 8), .inl (cI, 10, .inl (M 8))), ((R 9), .inl (cI, 10, .inl (M 9)))]) (ci := 1) (q0 := 0) hK hP hD hN [0, 1, 2, 3, 4, 5, 6, 7, 8, 9, 10, 11, 12] rfl (by decide) rfl rfl) rfl rfl hl.1 rfl (lv_room (Nat.le_of_ble_eq_true rfl)) dX1_mustLead_31 ⟨Nat.le_of_ble_eq_true rfl, Nat.le_of_ble_eq_true rfl⟩) hP hD hS hA [0, 1, 2, 3, 4, 5, 6, 7, 8, 9, 10, 11, 12] [] rfl rfl (by decide) (by decide) (fun u H locs w_3 hP hD hS => ?_)
        obtain ⟨q7_4, rfl⟩ : ∃ z, z = u := ⟨_, rfl⟩
        have hP : va_P D vwCl [(h1, .inr (1, [.ref k0, .ref k1, .ref k2, .ref k3, .ref k4, .ref k5, .ref k6, .ref k7, .int num])), (k7, .inl (cI, 10, .inl q7_4)), (k6, .inl (cQ, 10, .inr (.inr (.inr (.inr (fun i => if i < 10 then some (R i) else none)))))), ((R 0), .inl (cI, 10, .inl (M 0))), ((R 1), .inl (cI, 10, .inl (M 1))), ((R 2), .inl (cI, 10, .inl (M 2))), ((R 3), .inl (cI, 10, .inl (M 3))), ((R 4), .inl (cI, 10, .inl (M 4))), ((R 5), .inl (cI, 10, .inl (M 5))), ((R 6), .inl (cI, 10, .inl (M 6))), ((R 7), .inl (cI, 10, .inl (M 7))), ((R 8), .inl (cI, 10, .inl (M 8))), ((R 9), .inl (cI, 10, .inl (M 9)))] H := hP
        have hD : va_D A [(h1, .inr (1, [.ref k0, .ref k1, .ref k2, .ref k3, .ref k4, .ref k5, .ref k6, .ref k7, .int num])), (k7, .inl (cI, 10, .inl q7_4)), (k6, .inl (cQ, 10, .inr (.inr (.inr (.inr (fun i => if i < 10 then some (R i) else none)))))), ((R 0), .inl (cI, 10, .inl (M 0))), ((R 1), .inl (cI, 10, .inl (M 1))), ((R 2), .inl (cI, 10, .inl (M 2))), ((R 3), .inl (cI, 10, .inl (M 3))), ((R 4), .inl (cI, 10, .inl (M 4))), ((R 5), .inl (cI, 10, .inl (M 5))), ((R 6), .inl (cI, 10, .inl (M 6))), ((R 7), .inl (cI, 10, .inl (M 7))), ((R 8), .inl (cI, 10, .inl (M 8))), ((R 9), .inl (cI, 10, .inl (M 9)))] := hD
        have w_3 : q7_4 = r3 M num.toNatClampNeg (upd pw a.toNatClampNeg 0) (num.toNatClampNeg - 1) := w_3
        refine lv_aload_n hx hb dX1_mustLead_34 rfl (lv_at hl 0 rfl) ?_
        refine va_get (D := D) (ci := 1) (v := .ref k7) (C := RX1) (T := TX1) (N := 9) hx hb hts iw_X1_mustLead_1 hown hK hP 0 rfl rfl 7 (by decide) (hts _ wd_X1_mustLead_2) (fun _ h9 => h9) rfl dX1_mustLead_35 ?_
        refine lv_iload_n hx hb dX1_mustLead_38 rfl (lv_at hl 2 rfl) ?_
        refine va_iald hx hb hK hP 1 0 rfl rfl (pf_X1_mustLead_4 num M a b1 n_2 k pw q7_4 hn0 hn1 ha0 ha1 hb0 hb1 hM hn_2 h0k hk hw c_1 w_3) dX1_mustLead_39 ?_
        refine lv_topi (fun v_6 ev_6 => ?_)
        refine lv_iconst (v := (-1)) hx hb dX1_mustLead_40 (by decide) ?_
        refine lv_icmp_eq (tgt := 48) hx hb dX1_mustLead_41 (by decide) (fun c_7 => ?_) (fun c_7 => ?_)
        · refine lv_iconst (v := 0) hx hb dX1_mustLead_48 (by decide) ?_
          refine W.widen (k := 0) (n := 0) (Nat.le_of_ble_eq_true rfl) (Nat.le_of_ble_eq_true rfl) ?_
          exact fi_z q7_4 hx hb hr rfl hlocks hK (hP.sub [0, 1, 2, 3, 4, 5, 6, 7, 8, 9, 10, 11, 12] rfl) (hD.sub [0, 1, 2, 3, 4, 5, 6, 7, 8, 9, 10, 11, 12] (by decide) rfl) hS (pf_X1_mustLead_5 num M a b1 n_2 k pw q7_4 v_6 hn0 hn1 ha0 ha1 hb0 hb1 hM hn_2 h0k hk hw c_1 w_3 ev_6 c_7) dX1_mustLead_49
        · refine lv_iconst (v := 1) hx hb dX1_mustLead_44 (by decide) ?_
          refine lv_goto (tgt := 49) hx hb dX1_mustLead_45 (by decide) ?_
          refine W.widen (k := 0) (n := 0) (Nat.le_of_ble_eq_true rfl) (Nat.le_of_ble_eq_true rfl) ?_
          exact fi_z q7_4 hx hb hr rfl hlocks hK (hP.sub [0, 1, 2, 3, 4, 5, 6, 7, 8, 9, 10, 11, 12] rfl) (hD.sub [0, 1, 2, 3, 4, 5, 6, 7, 8, 9, 10, 11, 12] (by decide) rfl) hS (pf_X1_mustLead_6 num M a b1 n_2 k pw q7_4 v_6 hn0 hn1 ha0 ha1 hb0 hb1 hM hn_2 h0k hk hw c_1 w_3 ev_6 c_7) dX1_mustLead_49
      · refine lv_aload_n hx hb dX1_mustLead_10 rfl (lv_at hl 0 rfl) ?_
        refine va_get (D := D) (ci := 1) (v := .ref k7) (C := RX1) (T := TX1) (N := 9) hx hb hts iw_X1_mustLead_1 hown hK hP 0 rfl rfl 7 (by decide) (hts _ wd_X1_mustLead_2) (fun _ h9 => h9) rfl dX1_mustLead_11 ?_
        refine lv_iload_n hx hb dX1_mustLead_14 rfl (lv_at hl 3 rfl) ?_
        refine lv_iconst (v := (-1)) hx hb dX1_mustLead_15 (by decide) ?_
        refine va_iast hx hb hK hP hD hS 1 0 rfl rfl (pf_X1_mustLead_7 num M a b1 n_2 k pw hn0 hn1 ha0 ha1 hb0 hb1 hM hn_2 h0k hk hw c_1) dX1_mustLead_16 (fun H locs hP hD hS => ?_)
        have hP : va_P D vwCl [(h1, .inr (1, [.ref k0, .ref k1, .ref k2, .ref k3, .ref k4, .ref k5, .ref k6, .ref k7, .int num])), (k7, .inl (cI, 10, .inl (upd pw k.toNatClampNeg (-1)))), (k6, .inl (cQ, 10, .inr (.inr (.inr (.inr (fun i => if i < 10 then some (R i) else none)))))), ((R 0), .inl (cI, 10, .inl (M 0))), ((R 1), .inl (cI, 10, .inl (M 1))), ((R 2), .inl (cI, 10, .inl (M 2))), ((R 3), .inl (cI, 10, .inl (M 3))), ((R 4), .inl (cI, 10, .inl (M 4))), ((R 5), .inl (cI, 10, .inl (M 5))), ((R 6), .inl (cI, 10, .inl (M 6))), ((R 7), .inl (cI, 10, .inl (M 7))), ((R 8), .inl (cI, 10, .inl (M 8))), ((R 9), .inl (cI, 10, .inl (M 9)))] H := hP
        have hD : va_D A [(h1, .inr (1, [.ref k0, .ref k1, .ref k2, .ref k3, .ref k4, .ref k5, .ref k6, .ref k7, .int num])), (k7, .inl (cI, 10, .inl (upd pw k.toNatClampNeg (-1)))), (k6, .inl (cQ, 10, .inr (.inr (.inr (.inr (fun i => if i < 10 then some (R i) else none)))))), ((R 0), .inl (cI, 10, .inl (M 0))), ((R 1), .inl (cI, 10, .inl (M 1))), ((R 2), .inl (cI, 10, .inl (M 2))), ((R 3), .inl (cI, 10, .inl (M 3))), ((R 4), .inl (cI, 10, .inl (M 4))), ((R 5), .inl (cI, 10, .inl (M 5))), ((R 6), .inl (cI, 10, .inl (M 6))), ((R 7), .inl (cI, 10, .inl (M 7))), ((R 8), .inl (cI, 10, .inl (M 8))), ((R 9), .inl (cI, 10, .inl (M 9)))] := hD
        obtain ⟨v_8, ev_8⟩ : ∃ y : Int32, y = k + 1 := ⟨_, rfl⟩
        refine lv_iinc (v := v_8) (lv' := [(3, .int v_8), (0, .ref h1), (1, .int a), (2, .int b1)]) hx hb dX1_mustLead_17 hl (k := 3) rfl (by rw [ev_8]; rfl) (by decide) rfl (fun ls hl => ?_)
        refine lv_goto (tgt := 2) hx hb dX1_mustLead_20 (by decide) ?_
        exact hOut _ _ _ _ _ (ih_2 v_8 (upd pw k.toNatClampNeg (-1)) _ _ _ (pf_X1_mustLead_8 num M a b1 n_2 k pw v_8 hn0 hn1 ha0 ha1 hb0 hb1 hM hn_2 h0k hk hw c_1 ev_8) (pf_X1_mustLead_9 num M a b1 n_2 k pw v_8 hn0 hn1 ha0 ha1 hb0 hb1 hM hn_2 h0k hk hw c_1 ev_8) (pf_X1_mustLead_10 num M a b1 n_2 k pw v_8 hn0 hn1 ha0 ha1 hb0 hb1 hM hn_2 h0k hk hw c_1 ev_8) (pf_X1_mustLead_11 num M a b1 n_2 k pw v_8 hn0 hn1 ha0 ha1 hb0 hb1 hM hn_2 h0k hk hw c_1 ev_8) (hP.sub [0, 1, 2, 3, 4, 5, 6, 7, 8, 9, 10, 11, 12] rfl) (hD.sub [0, 1, 2, 3, 4, 5, 6, 7, 8, 9, 10, 11, 12] (by decide) rfl) hS (lv_sub hl [1, 2, 3, 0] rfl))
  exact hOut _ _ _ _ _ (lp_2 (10 - (0 : Int32).toNatClampNeg + 1) 0 p7 _ _ _ (Nat.lt_succ_self _) (pf_X1_mustLead_12 num M a b1 hn0 hn1 ha0 ha1 hb0 hb1 hM) (pf_X1_mustLead_13 num M a b1 hn0 hn1 ha0 ha1 hb0 hb1 hM) (pf_X1_mustLead_14 num p7 M a b1 hn0 hn1 ha0 ha1 hb0 hb1 hM) (hP.sub [0, 1, 2, 3, 4, 5, 6, 7, 8, 9, 10, 11, 12] rfl) (hD.sub [0, 1, 2, 3, 4, 5, 6, 7, 8, 9, 10, 11, 12] (by decide) rfl) hS (lv_sub hl [1, 2, 3, 0] rfl))

theorem iw_X1_longestLead_1 : ∀ w ∈ wsX10, w ∈ wsX1_longestLead := fun w h => (List.mem_cons_of_mem _ (List.mem_append_right _ h))
theorem wd_X1_longestLead_1 : (.fieldLink RX1 38 "PourPlan$Pieces" "number" "I" : Cond) ∈ wsX1_longestLead := List.mem_of_getElem? (i := 1) rfl
theorem wd_X1_longestLead_2 : (.fieldLink RX1 35 "PourPlan$Pieces" "ways" "[I" : Cond) ∈ wsX1_longestLead := List.mem_of_getElem? (i := 2) rfl
theorem wd_X1_longestLead_3 : (.methodLink RX1 45 Lib.Math.max.name : Cond) ∈ wsX1_longestLead := List.mem_of_getElem? (i := 3) rfl
theorem wd_X1_longestLead_4 : (.static Lib.Math.max.name : Cond) ∈ wsX1_longestLead := List.mem_of_getElem? (i := 4) rfl
theorem wd_X1_longestLead_5 : (.initialized "java/lang/Math" : Cond) ∈ wsX1_longestLead := List.mem_of_getElem? (i := 5) rfl
theorem wd_X1_longestLead_6 : (.code Lib.Math.max.name Lib.Math.max.code 2 (some .int) : Cond) ∈ wsX1_longestLead := List.mem_of_getElem? (i := 6) rfl
set_option maxHeartbeats 1000000 in
theorem pf_X1_longestLead_1 (num : Int32) (n_2 : Nat) (k : Int32) (pw : Nat → Int32) (hn0 : 0 ≤ num) (hn1 : num ≤ 10) (hn_2 : 10 - k.toNatClampNeg < n_2 + 1) (h0k : 0 ≤ k) (hk : k ≤ num) (hw : ∀ i : Nat, i < k.toNatClampNeg → pw i = 0) (c_1 : num ≤ k) : 0 ≤ num := by
  grind
set_option maxHeartbeats 1000000 in
theorem pf_X1_longestLead_2 (num : Int32) (n_2 : Nat) (k : Int32) (pw : Nat → Int32) (hn0 : 0 ≤ num) (hn1 : num ≤ 10) (hn_2 : 10 - k.toNatClampNeg < n_2 + 1) (h0k : 0 ≤ k) (hk : k ≤ num) (hw : ∀ i : Nat, i < k.toNatClampNeg → pw i = 0) (c_1 : num ≤ k) : num ≤ 10 := by
  grind
set_option maxHeartbeats 1000000 in
theorem pf_X1_longestLead_3 (num : Int32) (M : Nat → Nat → Int32) (n_2 : Nat) (k : Int32) (pw : Nat → Int32) (q7_4 : Nat → Int32) (n_31 : Nat) (j4 : Int32) (km : Int32) (hn0 : 0 ≤ num) (hn1 : num ≤ 10) (hn_2 : 10 - k.toNatClampNeg < n_2 + 1) (h0k : 0 ≤ k) (hk : k ≤ num) (hw : ∀ i : Nat, i < k.toNatClampNeg → pw i = 0) (c_1 : num ≤ k) (w_3 : q7_4 = r3 M num.toNatClampNeg pw (num.toNatClampNeg - 1)) (hn_31 : 10 - j4.toNatClampNeg < n_31 + 1) (h0j4 : 0 ≤ j4) (hj4 : j4 ≤ num) (hkm : km = mxF q7_4 j4.toNatClampNeg) (c_6 : num ≤ j4) : km = mxF q7_4 num.toNatClampNeg := by
  have e9 : j4 = num := by grind
  rw [hkm, e9]
set_option maxHeartbeats 1000000 in
theorem pf_X1_longestLead_4 (num : Int32) (M : Nat → Nat → Int32) (n_2 : Nat) (k : Int32) (pw : Nat → Int32) (q7_4 : Nat → Int32) (n_31 : Nat) (j4 : Int32) (km : Int32) (hn0 : 0 ≤ num) (hn1 : num ≤ 10) (hn_2 : 10 - k.toNatClampNeg < n_2 + 1) (h0k : 0 ≤ k) (hk : k ≤ num) (hw : ∀ i : Nat, i < k.toNatClampNeg → pw i = 0) (c_1 : num ≤ k) (w_3 : q7_4 = r3 M num.toNatClampNeg pw (num.toNatClampNeg - 1)) (hn_31 : 10 - j4.toNatClampNeg < n_31 + 1) (h0j4 : 0 ≤ j4) (hj4 : j4 ≤ num) (hkm : km = mxF q7_4 j4.toNatClampNeg) (c_6 : num ≤ j4) : (∀ i : Nat, i < num.toNatClampNeg → pw i = 0) := by
  intro i hi
  exact hw i (by rw [show k = num by grind]; exact hi)
set_option maxHeartbeats 1000000 in
theorem pf_X1_longestLead_5 (num : Int32) (M : Nat → Nat → Int32) (n_2 : Nat) (k : Int32) (pw : Nat → Int32) (q7_4 : Nat → Int32) (n_31 : Nat) (j4 : Int32) (km : Int32) (hn0 : 0 ≤ num) (hn1 : num ≤ 10) (hn_2 : 10 - k.toNatClampNeg < n_2 + 1) (h0k : 0 ≤ k) (hk : k ≤ num) (hw : ∀ i : Nat, i < k.toNatClampNeg → pw i = 0) (c_1 : num ≤ k) (w_3 : q7_4 = r3 M num.toNatClampNeg pw (num.toNatClampNeg - 1)) (hn_31 : 10 - j4.toNatClampNeg < n_31 + 1) (h0j4 : 0 ≤ j4) (hj4 : j4 ≤ num) (hkm : km = mxF q7_4 j4.toNatClampNeg) (c_6 : num ≤ j4) : q7_4 = r3 M num.toNatClampNeg pw (num.toNatClampNeg - 1) := by
  assumption
set_option maxHeartbeats 1000000 in
theorem pf_X1_longestLead_6 (num : Int32) (M : Nat → Nat → Int32) (n_2 : Nat) (k : Int32) (pw : Nat → Int32) (q7_4 : Nat → Int32) (n_31 : Nat) (j4 : Int32) (km : Int32) (hn0 : 0 ≤ num) (hn1 : num ≤ 10) (hn_2 : 10 - k.toNatClampNeg < n_2 + 1) (h0k : 0 ≤ k) (hk : k ≤ num) (hw : ∀ i : Nat, i < k.toNatClampNeg → pw i = 0) (c_1 : num ≤ k) (w_3 : q7_4 = r3 M num.toNatClampNeg pw (num.toNatClampNeg - 1)) (hn_31 : 10 - j4.toNatClampNeg < n_31 + 1) (h0j4 : 0 ≤ j4) (hj4 : j4 ≤ num) (hkm : km = mxF q7_4 j4.toNatClampNeg) (c_6 : ¬ num ≤ j4) : vp_in j4 10 := by
  exact vi_in (M := 10) rfl (by grind) (by grind)
set_option maxHeartbeats 1000000 in
theorem pf_X1_longestLead_7 (num : Int32) (M : Nat → Nat → Int32) (n_2 : Nat) (k : Int32) (pw : Nat → Int32) (q7_4 : Nat → Int32) (n_31 : Nat) (j4 : Int32) (km : Int32) (v_7 : Int32) (v_8 : Int32) (v_9 : Int32) (hn0 : 0 ≤ num) (hn1 : num ≤ 10) (hn_2 : 10 - k.toNatClampNeg < n_2 + 1) (h0k : 0 ≤ k) (hk : k ≤ num) (hw : ∀ i : Nat, i < k.toNatClampNeg → pw i = 0) (c_1 : num ≤ k) (w_3 : q7_4 = r3 M num.toNatClampNeg pw (num.toNatClampNeg - 1)) (hn_31 : 10 - j4.toNatClampNeg < n_31 + 1) (h0j4 : 0 ≤ j4) (hj4 : j4 ≤ num) (hkm : km = mxF q7_4 j4.toNatClampNeg) (c_6 : ¬ num ≤ j4) (ev_7 : v_7 = q7_4 j4.toNatClampNeg) (ev_8 : v_8 = (if km < v_7 then v_7 else km)) (ev_9 : v_9 = j4 + 1) : 10 - v_9.toNatClampNeg < n_31 := by
  exact ms_dec (L := 10) (k := j4) (by grind) (show ¬ (10 : Int32) ≤ j4 by grind) (by omega) (by assumption) hn_31
set_option maxHeartbeats 1000000 in
theorem pf_X1_longestLead_8 (num : Int32) (M : Nat → Nat → Int32) (n_2 : Nat) (k : Int32) (pw : Nat → Int32) (q7_4 : Nat → Int32) (n_31 : Nat) (j4 : Int32) (km : Int32) (v_7 : Int32) (v_8 : Int32) (v_9 : Int32) (hn0 : 0 ≤ num) (hn1 : num ≤ 10) (hn_2 : 10 - k.toNatClampNeg < n_2 + 1) (h0k : 0 ≤ k) (hk : k ≤ num) (hw : ∀ i : Nat, i < k.toNatClampNeg → pw i = 0) (c_1 : num ≤ k) (w_3 : q7_4 = r3 M num.toNatClampNeg pw (num.toNatClampNeg - 1)) (hn_31 : 10 - j4.toNatClampNeg < n_31 + 1) (h0j4 : 0 ≤ j4) (hj4 : j4 ≤ num) (hkm : km = mxF q7_4 j4.toNatClampNeg) (c_6 : ¬ num ≤ j4) (ev_7 : v_7 = q7_4 j4.toNatClampNeg) (ev_8 : v_8 = (if km < v_7 then v_7 else km)) (ev_9 : v_9 = j4 + 1) : 0 ≤ v_9 := by
  grind
set_option maxHeartbeats 1000000 in
theorem pf_X1_longestLead_9 (num : Int32) (M : Nat → Nat → Int32) (n_2 : Nat) (k : Int32) (pw : Nat → Int32) (q7_4 : Nat → Int32) (n_31 : Nat) (j4 : Int32) (km : Int32) (v_7 : Int32) (v_8 : Int32) (v_9 : Int32) (hn0 : 0 ≤ num) (hn1 : num ≤ 10) (hn_2 : 10 - k.toNatClampNeg < n_2 + 1) (h0k : 0 ≤ k) (hk : k ≤ num) (hw : ∀ i : Nat, i < k.toNatClampNeg → pw i = 0) (c_1 : num ≤ k) (w_3 : q7_4 = r3 M num.toNatClampNeg pw (num.toNatClampNeg - 1)) (hn_31 : 10 - j4.toNatClampNeg < n_31 + 1) (h0j4 : 0 ≤ j4) (hj4 : j4 ≤ num) (hkm : km = mxF q7_4 j4.toNatClampNeg) (c_6 : ¬ num ≤ j4) (ev_7 : v_7 = q7_4 j4.toNatClampNeg) (ev_8 : v_8 = (if km < v_7 then v_7 else km)) (ev_9 : v_9 = j4 + 1) : v_9 ≤ num := by
  grind
set_option maxHeartbeats 1000000 in
theorem pf_X1_longestLead_10 (num : Int32) (M : Nat → Nat → Int32) (n_2 : Nat) (k : Int32) (pw : Nat → Int32) (q7_4 : Nat → Int32) (n_31 : Nat) (j4 : Int32) (km : Int32) (v_7 : Int32) (v_8 : Int32) (v_9 : Int32) (hn0 : 0 ≤ num) (hn1 : num ≤ 10) (hn_2 : 10 - k.toNatClampNeg < n_2 + 1) (h0k : 0 ≤ k) (hk : k ≤ num) (hw : ∀ i : Nat, i < k.toNatClampNeg → pw i = 0) (c_1 : num ≤ k) (w_3 : q7_4 = r3 M num.toNatClampNeg pw (num.toNatClampNeg - 1)) (hn_31 : 10 - j4.toNatClampNeg < n_31 + 1) (h0j4 : 0 ≤ j4) (hj4 : j4 ≤ num) (hkm : km = mxF q7_4 j4.toNatClampNeg) (c_6 : ¬ num ≤ j4) (ev_7 : v_7 = q7_4 j4.toNatClampNeg) (ev_8 : v_8 = (if km < v_7 then v_7 else km)) (ev_9 : v_9 = j4 + 1) : v_8 = mxF q7_4 v_9.toNatClampNeg := by
  rw [mxF_s (k := j4) h0j4 (by grind) (by assumption), ← hkm]
  grind [mx]
set_option maxHeartbeats 1000000 in
theorem pf_X1_longestLead_11 (num : Int32) (M : Nat → Nat → Int32) (n_2 : Nat) (k : Int32) (pw : Nat → Int32) (q7_4 : Nat → Int32) (hn0 : 0 ≤ num) (hn1 : num ≤ 10) (hn_2 : 10 - k.toNatClampNeg < n_2 + 1) (h0k : 0 ≤ k) (hk : k ≤ num) (hw : ∀ i : Nat, i < k.toNatClampNeg → pw i = 0) (c_1 : num ≤ k) (w_3 : q7_4 = r3 M num.toNatClampNeg pw (num.toNatClampNeg - 1)) : 0 ≤ (0 : Int32) := by
  grind
set_option maxHeartbeats 1000000 in
theorem pf_X1_longestLead_12 (num : Int32) (M : Nat → Nat → Int32) (n_2 : Nat) (k : Int32) (pw : Nat → Int32) (q7_4 : Nat → Int32) (hn0 : 0 ≤ num) (hn1 : num ≤ 10) (hn_2 : 10 - k.toNatClampNeg < n_2 + 1) (h0k : 0 ≤ k) (hk : k ≤ num) (hw : ∀ i : Nat, i < k.toNatClampNeg → pw i = 0) (c_1 : num ≤ k) (w_3 : q7_4 = r3 M num.toNatClampNeg pw (num.toNatClampNeg - 1)) : (0 : Int32) ≤ num := by
  grind
set_option maxHeartbeats 1000000 in
theorem pf_X1_longestLead_13 (num : Int32) (M : Nat → Nat → Int32) (n_2 : Nat) (k : Int32) (pw : Nat → Int32) (q7_4 : Nat → Int32) (hn0 : 0 ≤ num) (hn1 : num ≤ 10) (hn_2 : 10 - k.toNatClampNeg < n_2 + 1) (h0k : 0 ≤ k) (hk : k ≤ num) (hw : ∀ i : Nat, i < k.toNatClampNeg → pw i = 0) (c_1 : num ≤ k) (w_3 : q7_4 = r3 M num.toNatClampNeg pw (num.toNatClampNeg - 1)) : (0 : Int32) = mxF q7_4 (0 : Int32).toNatClampNeg := by
  rfl
set_option maxHeartbeats 1000000 in
theorem pf_X1_longestLead_14 (num : Int32) (n_2 : Nat) (k : Int32) (pw : Nat → Int32) (hn0 : 0 ≤ num) (hn1 : num ≤ 10) (hn_2 : 10 - k.toNatClampNeg < n_2 + 1) (h0k : 0 ≤ k) (hk : k ≤ num) (hw : ∀ i : Nat, i < k.toNatClampNeg → pw i = 0) (c_1 : ¬ num ≤ k) : vp_in k 10 := by
  exact vi_in (M := 10) rfl (by grind) (by grind)
set_option maxHeartbeats 1000000 in
theorem pf_X1_longestLead_15 (num : Int32) (n_2 : Nat) (k : Int32) (pw : Nat → Int32) (v_10 : Int32) (hn0 : 0 ≤ num) (hn1 : num ≤ 10) (hn_2 : 10 - k.toNatClampNeg < n_2 + 1) (h0k : 0 ≤ k) (hk : k ≤ num) (hw : ∀ i : Nat, i < k.toNatClampNeg → pw i = 0) (c_1 : ¬ num ≤ k) (ev_10 : v_10 = k + 1) : 10 - v_10.toNatClampNeg < n_2 := by
  exact ms_dec (L := 10) (k := k) (by grind) (show ¬ (10 : Int32) ≤ k by grind) (by omega) (by assumption) hn_2
set_option maxHeartbeats 1000000 in
theorem pf_X1_longestLead_16 (num : Int32) (n_2 : Nat) (k : Int32) (pw : Nat → Int32) (v_10 : Int32) (hn0 : 0 ≤ num) (hn1 : num ≤ 10) (hn_2 : 10 - k.toNatClampNeg < n_2 + 1) (h0k : 0 ≤ k) (hk : k ≤ num) (hw : ∀ i : Nat, i < k.toNatClampNeg → pw i = 0) (c_1 : ¬ num ≤ k) (ev_10 : v_10 = k + 1) : 0 ≤ v_10 := by
  grind
set_option maxHeartbeats 1000000 in
theorem pf_X1_longestLead_17 (num : Int32) (n_2 : Nat) (k : Int32) (pw : Nat → Int32) (v_10 : Int32) (hn0 : 0 ≤ num) (hn1 : num ≤ 10) (hn_2 : 10 - k.toNatClampNeg < n_2 + 1) (h0k : 0 ≤ k) (hk : k ≤ num) (hw : ∀ i : Nat, i < k.toNatClampNeg → pw i = 0) (c_1 : ¬ num ≤ k) (ev_10 : v_10 = k + 1) : v_10 ≤ num := by
  grind
set_option maxHeartbeats 1000000 in
theorem pf_X1_longestLead_18 (num : Int32) (n_2 : Nat) (k : Int32) (pw : Nat → Int32) (v_10 : Int32) (hn0 : 0 ≤ num) (hn1 : num ≤ 10) (hn_2 : 10 - k.toNatClampNeg < n_2 + 1) (h0k : 0 ≤ k) (hk : k ≤ num) (hw : ∀ i : Nat, i < k.toNatClampNeg → pw i = 0) (c_1 : ¬ num ≤ k) (ev_10 : v_10 = k + 1) : ∀ i : Nat, i < v_10.toNatClampNeg → (upd pw k.toNatClampNeg 0) i = 0 := by
  exact all_s h0k (by grind) (by assumption) hw
set_option maxHeartbeats 1000000 in
theorem pf_X1_longestLead_19 (num : Int32) (hn0 : 0 ≤ num) (hn1 : num ≤ 10) : 0 ≤ (0 : Int32) := by
  grind
set_option maxHeartbeats 1000000 in
theorem pf_X1_longestLead_20 (num : Int32) (hn0 : 0 ≤ num) (hn1 : num ≤ 10) : (0 : Int32) ≤ num := by
  grind
set_option maxHeartbeats 1000000 in
theorem pf_X1_longestLead_21 (num : Int32) (p7 : Nat → Int32) (hn0 : 0 ≤ num) (hn1 : num ≤ 10) : ∀ i : Nat, i < (0 : Int32).toNatClampNeg → p7 i = 0 := by
  intro i hi
  exact absurd hi (by simp)
set_option maxHeartbeats 4000000 in
set_option maxRecDepth 100000 in
theorem c_X1_longestLead (l : Launch) (D : va_G) (cI cQ : ClassId) (sz : Nat) (h1 : Nat) (k7 : Nat) (k6 : Nat) (k0 : Nat) (k1 : Nat) (k2 : Nat) (k3 : Nat) (k4 : Nat) (k5 : Nat) (num : Int32) (p7 : Nat → Int32) (R : Nat → Nat) (M : Nat → Nat → Int32) (hn0 : 0 ≤ num) (hn1 : num ≤ 10) : CtI l yX1_longestLead wsX1_longestLead 2 44 0 0 [.ref h1] D [(cI, .int), (cQ, .array .int)] [(h1, .inr (1, [.ref k0, .ref k1, .ref k2, .ref k3, .ref k4, .ref k5, .ref k6, .ref k7, .int num])), (k7, .inl (cI, 10, .inl p7)), (k6, .inl (cQ, 10, .inr (.inr (.inr (.inr (fun i => if i < 10 then some (R i) else none)))))), ((R 0), .inl (cI, 10, .inl (M 0))), ((R 1), .inl (cI, 10, .inl (M 1))), ((R 2), .inl (cI, 10, .inl (M 2))), ((R 3), .inl (cI, 10, .inl (M 3))), ((R 4), .inl (cI, 10, .inl (M 4))), ((R 5), .inl (cI, 10, .inl (M 5))), ((R 6), .inl (cI, 10, .inl (M 6))), ((R 7), .inl (cI, 10, .inl (M 7))), ((R 8), .inl (cI, 10, .inl (M 8))), ((R 9), .inl (cI, 10, .inl (M 9)))] sz (fun (r : Int32) (u : (Nat → Int32) × (Nat → Int32)) => r = mxF u.1 num.toNatClampNeg ∧ (∀ i : Nat, i < num.toNatClampNeg → u.2 i = 0) ∧ u.1 = r3 M num.toNatClampNeg u.2 (num.toNatClampNeg - 1)) (fun (u : (Nat → Int32) × (Nat → Int32)) => [(h1, .inr (1, [.ref k0, .ref k1, .ref k2, .ref k3, .ref k4, .ref k5, .ref k6, .ref k7, .int num])), (k7, .inl (cI, 10, .inl u.1)), (k6, .inl (cQ, 10, .inr (.inr (.inr (.inr (fun i => if i < 10 then some (R i) else none)))))), ((R 0), .inl (cI, 10, .inl (M 0))), ((R 1), .inl (cI, 10, .inl (M 1))), ((R 2), .inl (cI, 10, .inl (M 2))), ((R 3), .inl (cI, 10, .inl (M 3))), ((R 4), .inl (cI, 10, .inl (M 4))), ((R 5), .inl (cI, 10, .inl (M 5))), ((R 6), .inl (cI, 10, .inl (M 6))), ((R 7), .inl (cI, 10, .inl (M 7))), ((R 8), .inl (cI, 10, .inl (M 8))), ((R 9), .inl (cI, 10, .inl (M 9)))]) := by
  refine Met.ofW (cc := cX1_longestLead) (maxL := 3) (ret := (some .int)) (by decide) rfl ?_
  intro p e s m args below meth c s₁ B hml hv
  obtain ⟨rfl, hsz, hP, hK, hD0, hN⟩ := hv
  have hx := B.exec
  have hb := B.bytes
  have hr := B.returns
  have hts := atoms_spec (ws := wsX1_longestLead) B.pre
  have hown : s.vm.findClass RX1 = some m.cls := findClass_of_methodNamed B.named
  have hlocks := B.notSynchronized
  subst hsz
  have hD := hD0.self (sz := s.heap.size)
  generalize hAe : va_A [(h1, .inr (1, [.ref k0, .ref k1, .ref k2, .ref k3, .ref k4, .ref k5, .ref k6, .ref k7, .int num])), (k7, .inl (cI, 10, .inl p7)), (k6, .inl (cQ, 10, .inr (.inr (.inr (.inr (fun i => if i < 10 then some (R i) else none)))))), ((R 0), .inl (cI, 10, .inl (M 0))), ((R 1), .inl (cI, 10, .inl (M 1))), ((R 2), .inl (cI, 10, .inl (M 2))), ((R 3), .inl (cI, 10, .inl (M 3))), ((R 4), .inl (cI, 10, .inl (M 4))), ((R 5), .inl (cI, 10, .inl (M 5))), ((R 6), .inl (cI, 10, .inl (M 6))), ((R 7), .inl (cI, 10, .inl (M 7))), ((R 8), .inl (cI, 10, .inl (M 8))), ((R 9), .inl (cI, 10, .inl (M 9)))] s.heap.size = A at hD ⊢
  have hA : ∀ q : Nat, s.heap.size ≤ q → A q := fun q h => by rw [← hAe]; exact Or.inr h
  have hS : va_S A s.heap s.heap [] := va_S.rf
  have hl := lv_entry ([.ref h1]) (n := 3) (Nat.le_of_ble_eq_true rfl)
  rw [lg_entry_eq]
  generalize (lg_sl ([.ref h1]) ++ List.replicate (3 - (lg_sl ([.ref h1])).length) Slot.unset).toArray = ls at hl ⊢
  have hl : lv_has ls 3 [(0, .ref h1)] := hl
  refine W_gen (fun GW hIn hOut => ?_)
  refine hIn _ _ _ _ _ ?_
  have hP0 := hP
  refine lv_iconst (v := 0) hx hb dX1_longestLead_0 (by decide) ?_
  refine lv_istore_n (lv' := [(1, .int 0), (0, .ref h1)]) hx hb dX1_longestLead_1 rfl hl (by decide) rfl (fun ls hl => ?_)
  have lp_2 : ∀ (n : Nat) (k : Int32) (pw : Nat → Int32) (H : Heap) (locs : List Loc) (ls : Array Slot), 10 - k.toNatClampNeg < n → (0 ≤ k) → (k ≤ num) → (∀ i : Nat, i < k.toNatClampNeg → pw i = 0) → va_P D vwCl [(h1, .inr (1, [.ref k0, .ref k1, .ref k2, .ref k3, .ref k4, .ref k5, .ref k6, .ref k7, .int num])), (k7, .inl (cI, 10, .inl pw)), (k6, .inl (cQ, 10, .inr (.inr (.inr (.inr (fun i => if i < 10 then some (R i) else none)))))), ((R 0), .inl (cI, 10, .inl (M 0))), ((R 1), .inl (cI, 10, .inl (M 1))), ((R 2), .inl (cI, 10, .inl (M 2))), ((R 3), .inl (cI, 10, .inl (M 3))), ((R 4), .inl (cI, 10, .inl (M 4))), ((R 5), .inl (cI, 10, .inl (M 5))), ((R 6), .inl (cI, 10, .inl (M 6))), ((R 7), .inl (cI, 10, .inl (M 7))), ((R 8), .inl (cI, 10, .inl (M 8))), ((R 9), .inl (cI, 10, .inl (M 9)))] H → va_D A [(h1, .inr (1, [.ref k0, .ref k1, .ref k2, .ref k3, .ref k4, .ref k5, .ref k6, .ref k7, .int num])), (k7, .inl (cI, 10, .inl pw)), (k6, .inl (cQ, 10, .inr (.inr (.inr (.inr (fun i => if i < 10 then some (R i) else none)))))), ((R 0), .inl (cI, 10, .inl (M 0))), ((R 1), .inl (cI, 10, .inl (M 1))), ((R 2), .inl (cI, 10, .inl (M 2))), ((R 3), .inl (cI, 10, .inl (M 3))), ((R 4), .inl (cI, 10, .inl (M 4))), ((R 5), .inl (cI, 10, .inl (M 5))), ((R 6), .inl (cI, 10, .inl (M 6))), ((R 7), .inl (cI, 10, .inl (M 7))), ((R 8), .inl (cI, 10, .inl (M 8))), ((R 9), .inl (cI, 10, .inl (M 9)))] → va_S A s.heap H locs → lv_has ls 3 [(0, .ref h1), (1, .int k)] → GW H locs 0 0 (F0 m 2 ls []) := by
    intro n_2
    induction n_2 with
    | zero => intro k pw H locs ls hn_2; exact absurd hn_2 (Nat.not_lt_zero _)
    | succ n_2 ih_2 =>
      intro k pw H locs ls hn_2 h0k hk hw hP hD hS hl
      refine hIn _ _ _ _ _ ?_
      refine lv_iload_n hx hb dX1_longestLead_2 rfl (lv_at hl 1 rfl) ?_
      refine lv_aload_n hx hb dX1_longestLead_3 rfl (lv_at hl 0 rfl) ?_
      refine va_get (D := D) (ci := 1) (v := .int num) (C := RX1) (T := TX1) (N := 9) hx hb hts iw_X1_longestLead_1 hown hK hP 0 rfl rfl 8 (by decide) (hts _ wd_X1_longestLead_1) (fun _ h9 => h9) rfl dX1_longestLead_4 ?_
      refine lv_icmp_ge (tgt := 23) hx hb dX1_longestLead_7 (by decide) (fun c_1 => ?_) (fun c_1 => ?_)
      · refine lv_aload_n hx hb dX1_longestLead_23 rfl (lv_at hl 0 rfl) ?_
        refine cc_v (wc := [(h1, .inr (1, [.ref k0, .ref k1, .ref k2, .ref k3, .ref k4, .ref k5, .ref k6, .ref k7, .int num])), (k7, .inl (cI, 10, .inl pw)), (k6, .inl (cQ, 10, .inr (.inr (.inr (.inr (fun i => if i < 10 then some (R i) else none)))))), ((R 0), .inl (cI, 10, .inl (M 0))), ((R 1), .inl (cI, 10, .inl (M 1))), ((R 2), .inl (cI, 10, .inl (M 2))), ((R 3), .inl (cI, 10, .inl (M 3))), ((R 4), .inl (cI, 10, .inl (M 4))), ((R 5), .inl (cI, 10, .inl (M 5))), ((R 6), .inl (cI, 10, .inl (M 6))), ((R 7), .inl (cI, 10, .inl (M 7))), ((R 8), .inl (cI, 10, .inl (M 8))), ((R 9), .inl (cI, 10, .inl (M 9)))]) (wr := []) (va_runV (As := []) (rest := []) ⟨hx, hb, hml, hown, hts⟩ (c_X1_lengthenWays l D cI cQ H.size h1 k7 k6 k0 k1 k2 k3 k4 k5 num pw R M (pf_X1_longestLead_1 num n_2 k pw hn0 hn1 hn_2 h0k hk hw c_1) (pf_X1_longestLead_2 num n_2 k pw hn0 hn1 hn_2 h0k hk hw c_1)) (cwV 0 hts gX1_longestLead_X1_lengthenWays rfl rfl rfl (by decide +kernel) ⟨Nat.le_of_ble_eq_true rfl, Nat.le_of_ble_eq_true rfl⟩) (preV (wc := [(h1, .inr (1, [.ref k0, .ref k1, .ref k2, .ref k3, .ref k4, .ref k5, .ref k6, .ref k7, .int num])), (k7, .inl (cI, 10, .inl pw)), (k6, .inl (cQ, 10, .inr (.inr (.inr (.inr (fun i => if i < 10 then some (R i) else none)))))), ((R 0), .inl (cI, 10, .inl (M 0))), ((R 1), .inl (cI, 10, .inl (M 1))), ((R 2), .inl (cI, 10, .inl (M 2))), ((R 3), .inl (cI, 10, .inl (M 3))), ((R 4), .inl (cI, 10, .inl (M 4))), ((R 5), .inl (cI, 10, .inl (M 5))), ((R 6), .inl (cI, 10, .inl (M 6))), ((R 7), .inl (cI, 10, .inl (M 7))), ((R 8), .inl (cI, 10, .inl (M 8))), ((R 9), .inl (cI, 10, .inl (M 9)))]) (ci := 1) (q0 := 0) hK hP hD hN [0, 1, 2, 3, 4, 5, 6, 7, 8, 9, 10, 11, 12] rfl (by decide) rfl rfl) rfl rfl hl.1 rfl (lv_room (Nat.le_of_ble_eq_true rfl)) dX1_longestLead_24 ⟨Nat.le_of_ble_eq_true rfl, Nat.le_of_ble_eq_true rfl⟩) hP hD hS hA [0, 1, 2, 3, 4, 5, 6, 7, 8, 9, 10, 11, 12] [] rfl rfl (by decide) (by decide) (fun u H locs w_3 hP hD hS => ?_)
        obtain ⟨q7_4, rfl⟩ : ∃ z, z = u := ⟨_, rfl⟩
        have hP : va_P D vwCl [(h1, .inr (1, [.ref k0, .ref k1, .ref k2, .ref k3, .ref k4, .ref k5, .ref k6, .ref k7, .int num])), (k7, .inl (cI, 10, .inl q7_4)), (k6, .inl (cQ, 10, .inr (.inr (.inr (.inr (fun i => if i < 10 then some (R i) else none)))))), ((R 0), .inl (cI, 10, .inl (M 0))), ((R 1), .inl (cI, 10, .inl (M 1))), ((R 2), .inl (cI, 10, .inl (M 2))), ((R 3), .inl (cI, 10, .inl (M 3))), ((R 4), .inl (cI, 10, .inl (M 4))), ((R 5), .inl (cI, 10, .inl (M 5))), ((R 6), .inl (cI, 10, .inl (M 6))), ((R 7), .inl (cI, 10, .inl (M 7))), ((R 8), .inl (cI, 10, .inl (M 8))), ((R 9), .inl (cI, 10, .inl (M 9)))] H := hP
        have hD : va_D A [(h1, .inr (1, [.ref k0, .ref k1, .ref k2, .ref k3, .ref k4, .ref k5, .ref k6, .ref k7, .int num])), (k7, .inl (cI, 10, .inl q7_4)), (k6, .inl (cQ, 10, .inr (.inr (.inr (.inr (fun i => if i < 10 then some (R i) else none)))))), ((R 0), .inl (cI, 10, .inl (M 0))), ((R 1), .inl (cI, 10, .inl (M 1))), ((R 2), .inl (cI, 10, .inl (M 2))), ((R 3), .inl (cI, 10, .inl (M 3))), ((R 4), .inl (cI, 10, .inl (M 4))), ((R 5), .inl (cI, 10, .inl (M 5))), ((R 6), .inl (cI, 10, .inl (M 6))), ((R 7), .inl (cI, 10, .inl (M 7))), ((R 8), .inl (cI, 10, .inl (M 8))), ((R 9), .inl (cI, 10, .inl (M 9)))] := hD
        have w_3 : q7_4 = r3 M num.toNatClampNeg pw (num.toNatClampNeg - 1) := w_3
        refine lv_iconst (v := 0) hx hb dX1_longestLead_27 (by decide) ?_
        refine lv_istore_n (lv' := [(1, .int 0), (0, .ref h1)]) hx hb dX1_longestLead_28 rfl hl (by decide) rfl (fun ls hl => ?_)
        refine lv_iconst (v := 0) hx hb dX1_longestLead_29 (by decide) ?_
        refine lv_istore_n (lv' := [(2, .int 0), (1, .int 0), (0, .ref h1)]) hx hb dX1_longestLead_30 rfl hl (by decide) rfl (fun ls hl => ?_)
        have lp_31 : ∀ (n : Nat) (j4 : Int32) (km : Int32) (H : Heap) (locs : List Loc) (ls : Array Slot), 10 - j4.toNatClampNeg < n → (0 ≤ j4) → (j4 ≤ num) → (km = mxF q7_4 j4.toNatClampNeg) → va_P D vwCl [(h1, .inr (1, [.ref k0, .ref k1, .ref k2, .ref k3, .ref k4, .ref k5, .ref k6, .ref k7, .int num])), (k7, .inl (cI, 10, .inl q7_4)), (k6, .inl (cQ, 10, .inr (.inr (.inr (.inr (fun i => if i < 10 then some (R i) else none)))))), ((R 0), .inl (cI, 10, .inl (M 0))), ((R 1), .inl (cI, 10, .inl (M 1))), ((R 2), .inl (cI, 10, .inl (M 2))), ((R 3), .inl (cI, 10, .inl (M 3))), ((R 4), .inl (cI, 10, .inl (M 4))), ((R 5), .inl (cI, 10, .inl (M 5))), ((R 6), .inl (cI, 10, .inl (M 6))), ((R 7), .inl (cI, 10, .inl (M 7))), ((R 8), .inl (cI, 10, .inl (M 8))), ((R 9), .inl (cI, 10, .inl (M 9)))] H → va_D A [(h1, .inr (1, [.ref k0, .ref k1, .ref k2, .ref k3, .ref k4, .ref k5, .ref k6, .ref k7, .int num])), (k7, .inl (cI, 10, .inl q7_4)), (k6, .inl (cQ, 10, .inr (.inr (.inr (.inr (fun i => if i < 10 then some (R i) else none)))))), ((R 0), .inl (cI, 10, .inl (M 0))), ((R 1), .inl (cI, 10, .inl (M 1))), ((R 2), .inl (cI, 10, .inl (M 2))), ((R 3), .inl (cI, 10, .inl (M 3))), ((R 4), .inl (cI, 10, .inl (M 4))), ((R 5), .inl (cI, 10, .inl (M 5))), ((R 6), .inl (cI, 10, .inl (M 6))), ((R 7), .inl (cI, 10, .inl (M 7))), ((R 8), .inl (cI, 10, .inl (M 8))), ((R 9), .inl (cI, 10, .inl (M 9)))] → va_S A s.heap H locs → lv_has ls 3 [(0, .ref h1), (1, .int km), (2, .int j4)] → GW H locs 0 0 (F0 m 31 ls []) := by
          intro n_31
          induction n_31 with
          | zero => intro j4 km H locs ls hn_31; exact absurd hn_31 (Nat.not_lt_zero _)
          | succ n_31 ih_31 =>
            intro j4 km H locs ls hn_31 h0j4 hj4 hkm hP hD hS hl
            refine hIn _ _ _ _ _ ?_
            refine lv_iload_n hx hb dX1_longestLead_31 rfl (lv_at hl 2 rfl) ?_
            refine lv_aload_n hx hb dX1_longestLead_32 rfl (lv_at hl 0 rfl) ?_
            refine va_get (D := D) (ci := 1) (v := .int num) (C := RX1) (T := TX1) (N := 9) hx hb hts iw_X1_longestLead_1 hown hK hP 0 rfl rfl 8 (by decide) (hts _ wd_X1_longestLead_1) (fun _ h9 => h9) rfl dX1_longestLead_33 ?_
            refine lv_icmp_ge (tgt := 56) hx hb dX1_longestLead_36 (by decide) (fun c_6 => ?_) (fun c_6 => ?_)
            · refine lv_iload_n hx hb dX1_longestLead_56 rfl (lv_at hl 1 rfl) ?_
              refine W.widen (k := 0) (n := 0) (Nat.le_of_ble_eq_true rfl) (Nat.le_of_ble_eq_true rfl) ?_
              exact fi_i (q7_4, pw) hx hb hr hlocks hK (hP.sub [0, 1, 2, 3, 4, 5, 6, 7, 8, 9, 10, 11, 12] rfl) (hD.sub [0, 1, 2, 3, 4, 5, 6, 7, 8, 9, 10, 11, 12] (by decide) rfl) hS ⟨(pf_X1_longestLead_3 num M n_2 k pw q7_4 n_31 j4 km hn0 hn1 hn_2 h0k hk hw c_1 w_3 hn_31 h0j4 hj4 hkm c_6), (pf_X1_longestLead_4 num M n_2 k pw q7_4 n_31 j4 km hn0 hn1 hn_2 h0k hk hw c_1 w_3 hn_31 h0j4 hj4 hkm c_6), (pf_X1_longestLead_5 num M n_2 k pw q7_4 n_31 j4 km hn0 hn1 hn_2 h0k hk hw c_1 w_3 hn_31 h0j4 hj4 hkm c_6)⟩ dX1_longestLead_57
            · refine lv_iload_n hx hb dX1_longestLead_39 rfl (lv_at hl 1 rfl) ?_
              refine lv_aload_n hx hb dX1_longestLead_40 rfl (lv_at hl 0 rfl) ?_
              refine va_get (D := D) (ci := 1) (v := .ref k7) (C := RX1) (T := TX1) (N := 9) hx hb hts iw_X1_longestLead_1 hown hK hP 0 rfl rfl 7 (by decide) (hts _ wd_X1_longestLead_2) (fun _ h9 => h9) rfl dX1_longestLead_41 ?_
              refine lv_iload_n hx hb dX1_longestLead_44 rfl (lv_at hl 2 rfl) ?_
              refine va_iald hx hb hK hP 1 0 rfl rfl (pf_X1_longestLead_6 num M n_2 k pw q7_4 n_31 j4 km hn0 hn1 hn_2 h0k hk hw c_1 w_3 hn_31 h0j4 hj4 hkm c_6) dX1_longestLead_45 ?_
              refine lv_topi (fun v_7 ev_7 => ?_)
              refine va_mmax hx hb (by rw [hml]; exact hl.1.symm) hown (hts _ wd_X1_longestLead_3) (hts _ wd_X1_longestLead_4) (hts _ wd_X1_longestLead_5) (hts _ wd_X1_longestLead_6) (Nat.le_of_ble_eq_true rfl) (Nat.le_of_ble_eq_true rfl) (Nat.le_of_ble_eq_true rfl) (Nat.le_of_ble_eq_true rfl) dX1_longestLead_46 ?_
              refine lv_topi (fun v_8 ev_8 => ?_)
              refine lv_istore_n (lv' := [(1, .int v_8), (0, .ref h1), (2, .int j4)]) hx hb dX1_longestLead_49 rfl hl (by decide) rfl (fun ls hl => ?_)
              obtain ⟨v_9, ev_9⟩ : ∃ y : Int32, y = j4 + 1 := ⟨_, rfl⟩
              refine lv_iinc (v := v_9) (lv' := [(2, .int v_9), (1, .int v_8), (0, .ref h1)]) hx hb dX1_longestLead_50 hl (k := 2) rfl (by rw [ev_9]; rfl) (by decide) rfl (fun ls hl => ?_)
              refine lv_goto (tgt := 31) hx hb dX1_longestLead_53 (by decide) ?_
              exact hOut _ _ _ _ _ (ih_31 v_9 v_8 _ _ _ (pf_X1_longestLead_7 num M n_2 k pw q7_4 n_31 j4 km v_7 v_8 v_9 hn0 hn1 hn_2 h0k hk hw c_1 w_3 hn_31 h0j4 hj4 hkm c_6 ev_7 ev_8 ev_9) (pf_X1_longestLead_8 num M n_2 k pw q7_4 n_31 j4 km v_7 v_8 v_9 hn0 hn1 hn_2 h0k hk hw c_1 w_3 hn_31 h0j4 hj4 hkm c_6 ev_7 ev_8 ev_9) (pf_X1_longestLead_9 num M n_2 k pw q7_4 n_31 j4 km v_7 v_8 v_9 hn0 hn1 hn_2 h0k hk hw c_1 w_3 hn_31 h0j4 hj4 hkm c_6 ev_7 ev_8 ev_9) (pf_X1_longestLead_10 num M n_2 k pw q7_4 n_31 j4 km v_7 v_8 v_9 hn0 hn1 hn_2 h0k hk hw c_1 w_3 hn_31 h0j4 hj4 hkm c_6 ev_7 ev_8 ev_9) (hP.sub [0, 1, 2, 3, 4, 5, 6, 7, 8, 9, 10, 11, 12] rfl) (hD.sub [0, 1, 2, 3, 4, 5, 6, 7, 8, 9, 10, 11, 12] (by decide) rfl) hS (lv_sub hl [2, 1, 0] rfl))
        exact hOut _ _ _ _ _ (lp_31 (10 - (0 : Int32).toNatClampNeg + 1) 0 0 _ _ _ (Nat.lt_succ_self _) (pf_X1_longestLead_11 num M n_2 k pw q7_4 hn0 hn1 hn_2 h0k hk hw c_1 w_3) (pf_X1_longestLead_12 num M n_2 k pw q7_4 hn0 hn1 hn_2 h0k hk hw c_1 w_3) (pf_X1_longestLead_13 num M n_2 k pw q7_4 hn0 hn1 hn_2 h0k hk hw c_1 w_3) (hP.sub [0, 1, 2, 3, 4, 5, 6, 7, 8, 9, 10, 11, 12] rfl) (hD.sub [0, 1, 2, 3, 4, 5, 6, 7, 8, 9, 10, 11, 12] (by decide) rfl) hS (lv_sub hl [2, 1, 0] rfl))
      · refine lv_aload_n hx hb dX1_longestLead_10 rfl (lv_at hl 0 rfl) ?_
        refine va_get (D := D) (ci := 1) (v := .ref k7) (C := RX1) (T := TX1) (N := 9) hx hb hts iw_X1_longestLead_1 hown hK hP 0 rfl rfl 7 (by decide) (hts _ wd_X1_longestLead_2) (fun _ h9 => h9) rfl dX1_longestLead_11 ?_
        refine lv_iload_n hx hb dX1_longestLead_14 rfl (lv_at hl 1 rfl) ?_
        refine lv_iconst (v := 0) hx hb dX1_longestLead_15 (by decide) ?_
        refine va_iast hx hb hK hP hD hS 1 0 rfl rfl (pf_X1_longestLead_14 num n_2 k pw hn0 hn1 hn_2 h0k hk hw c_1) dX1_longestLead_16 (fun H locs hP hD hS => ?_)
        have hP : va_P D vwCl [(h1, .inr (1, [.ref k0, .ref k1, .ref k2, .ref k3, .ref k4, .ref k5, .ref k6, .ref k7, .int num])), (k7, .inl (cI, 10, .inl (upd pw k.toNatClampNeg 0))), (k6, .inl (cQ, 10, .inr (.inr (.inr (.inr (fun i => if i < 10 then some (R i) else none)))))), ((R 0), .inl (cI, 10, .inl (M 0))), ((R 1), .inl (cI, 10, .inl (M 1))), ((R 2), .inl (cI, 10, .inl (M 2))), ((R 3), .inl (cI, 10, .inl (M 3))), ((R 4), .inl (cI, 10, .inl (M 4))), ((R 5), .inl (cI, 10, .inl (M 5))), ((R 6), .inl (cI, 10, .inl (M 6))), ((R 7), .inl (cI, 10, .inl (M 7))), ((R 8), .inl (cI, 10, .inl (M 8))), ((R 9), .inl (cI, 10, .inl (M 9)))] H := hP
        have hD : va_D A [(h1, .inr (1, [.ref k0, .ref k1, .ref k2, .ref k3, .ref k4, .ref k5, .ref k6, .ref k7, .int num])), (k7, .inl (cI, 10, .inl (upd pw k.toNatClampNeg 0))), (k6, .inl (cQ, 10, .inr (.inr (.inr (.inr (fun i => if i < 10 then some (R i) else none)))))), ((R 0), .inl (cI, 10, .inl (M 0))), ((R 1), .inl (cI, 10, .inl (M 1))), ((R 2), .inl (cI, 10, .inl (M 2))), ((R 3), .inl (cI, 10, .inl (M 3))), ((R 4), .inl (cI, 10, .inl (M 4))), ((R 5), .inl (cI, 10, .inl (M 5))), ((R 6), .inl (cI, 10, .inl (M 6))), ((R 7), .inl (cI, 10, .inl (M 7))), ((R 8), .inl (cI, 10, .inl (M 8))), ((R 9), .inl (cI, 10, .inl (M 9)))] := hD
        obtain ⟨v_10, ev_10⟩ : ∃ y : Int32, y = k + 1 := ⟨_, rfl⟩
        refine lv_iinc (v := v_10) (lv' := [(1, .int v_10), (0, .ref h1)]) hx hb dX1_longestLead_17 hl (k := 1) rfl (by rw [ev_10]; rfl) (by decide) rfl (fun ls hl => ?_)
        refine lv_goto (tgt := 2) hx hb dX1_longestLead_20 (by decide) ?_
        exact hOut _ _ _ _ _ (ih_2 v_10 (upd pw k.toNatClampNeg 0) _ _ _ (pf_X1_longestLead_15 num n_2 k pw v_10 hn0 hn1 hn_2 h0k hk hw c_1 ev_10) (pf_X1_longestLead_16 num n_2 k pw v_10 hn0 hn1 hn_2 h0k hk hw c_1 ev_10) (pf_X1_longestLead_17 num n_2 k pw v_10 hn0 hn1 hn_2 h0k hk hw c_1 ev_10) (pf_X1_longestLead_18 num n_2 k pw v_10 hn0 hn1 hn_2 h0k hk hw c_1 ev_10) (hP.sub [0, 1, 2, 3, 4, 5, 6, 7, 8, 9, 10, 11, 12] rfl) (hD.sub [0, 1, 2, 3, 4, 5, 6, 7, 8, 9, 10, 11, 12] (by decide) rfl) hS (lv_sub hl [1, 0] rfl))
  exact hOut _ _ _ _ _ (lp_2 (10 - (0 : Int32).toNatClampNeg + 1) 0 p7 _ _ _ (Nat.lt_succ_self _) (pf_X1_longestLead_19 num hn0 hn1) (pf_X1_longestLead_20 num hn0 hn1) (pf_X1_longestLead_21 num p7 hn0 hn1) (hP.sub [0, 1, 2, 3, 4, 5, 6, 7, 8, 9, 10, 11, 12] rfl) (hD.sub [0, 1, 2, 3, 4, 5, 6, 7, 8, 9, 10, 11, 12] (by decide) rfl) hS (lv_sub hl [1, 0] rfl))

theorem iw_X1_init_1 : ∀ w ∈ wsX10, w ∈ wsX1_init := fun w h => (List.mem_cons_of_mem _ (List.mem_append_right _ h))
theorem wd_X1_init_1 : (.methodLink RX1 3 objectInit : Cond) ∈ wsX1_init := List.mem_of_getElem? (i := 1) rfl
theorem wd_X1_init_2 : (.instanceMethod objectInit : Cond) ∈ wsX1_init := List.mem_of_getElem? (i := 2) rfl
theorem wd_X1_init_3 : (.code objectInit ⟨#[0xb1]⟩ 1 none : Cond) ∈ wsX1_init := List.mem_of_getElem? (i := 3) rfl
theorem wd_X1_init_4 : (.arrayClass .int : Cond) ∈ wsX1_init := List.mem_of_getElem? (i := 4) rfl
theorem wd_X1_init_5 : (.fieldLink RX1 9 "PourPlan$Pieces" "kinds" "[I" : Cond) ∈ wsX1_init := List.mem_of_getElem? (i := 5) rfl
theorem wd_X1_init_6 : (.fieldLink RX1 15 "PourPlan$Pieces" "floors" "[I" : Cond) ∈ wsX1_init := List.mem_of_getElem? (i := 6) rfl
theorem wd_X1_init_7 : (.fieldLink RX1 18 "PourPlan$Pieces" "volumes" "[I" : Cond) ∈ wsX1_init := List.mem_of_getElem? (i := 7) rfl
theorem wd_X1_init_8 : (.fieldLink RX1 21 "PourPlan$Pieces" "sizes" "[I" : Cond) ∈ wsX1_init := List.mem_of_getElem? (i := 8) rfl
theorem wd_X1_init_9 : (.fieldLink RX1 24 "PourPlan$Pieces" "faces" "[I" : Cond) ∈ wsX1_init := List.mem_of_getElem? (i := 9) rfl
theorem wd_X1_init_10 : (.fieldLink RX1 27 "PourPlan$Pieces" "days" "[I" : Cond) ∈ wsX1_init := List.mem_of_getElem? (i := 10) rfl
theorem wd_X1_init_11 : (.classLink RX1 30 "[[I" : Cond) ∈ wsX1_init := List.mem_of_getElem? (i := 11) rfl
theorem wd_X1_init_12 : (.fieldLink RX1 32 "PourPlan$Pieces" "lead" "[[I" : Cond) ∈ wsX1_init := List.mem_of_getElem? (i := 12) rfl
theorem wd_X1_init_13 : (.fieldLink RX1 35 "PourPlan$Pieces" "ways" "[I" : Cond) ∈ wsX1_init := List.mem_of_getElem? (i := 13) rfl
theorem wd_X1_init_14 : (.fieldLink RX1 38 "PourPlan$Pieces" "number" "I" : Cond) ∈ wsX1_init := List.mem_of_getElem? (i := 14) rfl
set_option maxHeartbeats 1000000 in
theorem pf_X1_init_1 (M0 : Nat → Nat → Int32) (n_79 : Nat) (k : Int32) (pd : Nat → Int32) (Ma : Nat → Nat → Int32) (eM0 : M0 = fun _ _ => 0) (hn_79 : 10 - k.toNatClampNeg < n_79 + 1) (h0k : 0 ≤ k) (vpd : okWh pd) (hpd : ∀ i : Nat, i < k.toNatClampNeg → pd i = -1) (hMa : ∀ i j : Nat, i < k.toNatClampNeg → j < 10 → Ma i j = -1) (c_9 : 10 ≤ k) : okSz (fun _ => (0 : Int32)) := by
  intro i9
  show (0 : Int32) ≤ 0 ∧ (0 : Int32) ≤ 2
  decide
set_option maxHeartbeats 1000000 in
theorem pf_X1_init_2 (M0 : Nat → Nat → Int32) (n_79 : Nat) (k : Int32) (pd : Nat → Int32) (Ma : Nat → Nat → Int32) (eM0 : M0 = fun _ _ => 0) (hn_79 : 10 - k.toNatClampNeg < n_79 + 1) (h0k : 0 ≤ k) (vpd : okWh pd) (hpd : ∀ i : Nat, i < k.toNatClampNeg → pd i = -1) (hMa : ∀ i j : Nat, i < k.toNatClampNeg → j < 10 → Ma i j = -1) (c_9 : 10 ≤ k) : (∀ i j : Nat, i < 10 → j < 10 → Ma i j = -1) := by
  intro i j hi hj
  exact hMa i j (ge_cl (M := 10) rfl (by assumption) hi) hj
set_option maxHeartbeats 1000000 in
theorem pf_X1_init_3 (M0 : Nat → Nat → Int32) (n_79 : Nat) (k : Int32) (pd : Nat → Int32) (Ma : Nat → Nat → Int32) (eM0 : M0 = fun _ _ => 0) (hn_79 : 10 - k.toNatClampNeg < n_79 + 1) (h0k : 0 ≤ k) (vpd : okWh pd) (hpd : ∀ i : Nat, i < k.toNatClampNeg → pd i = -1) (hMa : ∀ i j : Nat, i < k.toNatClampNeg → j < 10 → Ma i j = -1) (c_9 : 10 ≤ k) : (∀ i : Nat, i < 10 → pd i = -1) := by
  intro i hi
  exact hpd i (ge_cl (M := 10) rfl (by assumption) hi)
set_option maxHeartbeats 1000000 in
theorem pf_X1_init_4 (M0 : Nat → Nat → Int32) (n_79 : Nat) (k : Int32) (pd : Nat → Int32) (Ma : Nat → Nat → Int32) (eM0 : M0 = fun _ _ => 0) (hn_79 : 10 - k.toNatClampNeg < n_79 + 1) (h0k : 0 ≤ k) (vpd : okWh pd) (hpd : ∀ i : Nat, i < k.toNatClampNeg → pd i = -1) (hMa : ∀ i j : Nat, i < k.toNatClampNeg → j < 10 → Ma i j = -1) (c_9 : 10 ≤ k) : okWh pd := by
  exact vpd
set_option maxHeartbeats 1000000 in
theorem pf_X1_init_5 (M0 : Nat → Nat → Int32) (n_79 : Nat) (k : Int32) (pd : Nat → Int32) (Ma : Nat → Nat → Int32) (eM0 : M0 = fun _ _ => 0) (hn_79 : 10 - k.toNatClampNeg < n_79 + 1) (h0k : 0 ≤ k) (vpd : okWh pd) (hpd : ∀ i : Nat, i < k.toNatClampNeg → pd i = -1) (hMa : ∀ i j : Nat, i < k.toNatClampNeg → j < 10 → Ma i j = -1) (c_9 : ¬ 10 ≤ k) : vp_in k 10 := by
  exact vi_in (M := 10) rfl (by grind) (by grind)
set_option maxHeartbeats 1000000 in
theorem pf_X1_init_6 (M0 : Nat → Nat → Int32) (n_79 : Nat) (k : Int32) (pd : Nat → Int32) (Ma : Nat → Nat → Int32) (n_94 : Nat) (j2 : Int32) (Mb : Nat → Nat → Int32) (v_11 : Int32) (eM0 : M0 = fun _ _ => 0) (hn_79 : 10 - k.toNatClampNeg < n_79 + 1) (h0k : 0 ≤ k) (vpd : okWh pd) (hpd : ∀ i : Nat, i < k.toNatClampNeg → pd i = -1) (hMa : ∀ i j : Nat, i < k.toNatClampNeg → j < 10 → Ma i j = -1) (c_9 : ¬ 10 ≤ k) (hn_94 : 10 - j2.toNatClampNeg < n_94 + 1) (h0j2 : 0 ≤ j2) (hMb : (∀ i j : Nat, i < k.toNatClampNeg → j < 10 → Mb i j = -1) ∧ ∀ q : Nat, q < j2.toNatClampNeg → Mb k.toNatClampNeg q = -1) (c_10 : 10 ≤ j2) (ev_11 : v_11 = k + 1) : 10 - v_11.toNatClampNeg < n_79 := by
  exact ms_dec (L := 10) (k := k) (by grind) (show ¬ (10 : Int32) ≤ k by grind) (by omega) (by assumption) hn_79
set_option maxHeartbeats 1000000 in
theorem pf_X1_init_7 (M0 : Nat → Nat → Int32) (n_79 : Nat) (k : Int32) (pd : Nat → Int32) (Ma : Nat → Nat → Int32) (n_94 : Nat) (j2 : Int32) (Mb : Nat → Nat → Int32) (v_11 : Int32) (eM0 : M0 = fun _ _ => 0) (hn_79 : 10 - k.toNatClampNeg < n_79 + 1) (h0k : 0 ≤ k) (vpd : okWh pd) (hpd : ∀ i : Nat, i < k.toNatClampNeg → pd i = -1) (hMa : ∀ i j : Nat, i < k.toNatClampNeg → j < 10 → Ma i j = -1) (c_9 : ¬ 10 ≤ k) (hn_94 : 10 - j2.toNatClampNeg < n_94 + 1) (h0j2 : 0 ≤ j2) (hMb : (∀ i j : Nat, i < k.toNatClampNeg → j < 10 → Mb i j = -1) ∧ ∀ q : Nat, q < j2.toNatClampNeg → Mb k.toNatClampNeg q = -1) (c_10 : 10 ≤ j2) (ev_11 : v_11 = k + 1) : 0 ≤ v_11 := by
  grind
set_option maxHeartbeats 1000000 in
theorem pf_X1_init_8 (M0 : Nat → Nat → Int32) (n_79 : Nat) (k : Int32) (pd : Nat → Int32) (Ma : Nat → Nat → Int32) (n_94 : Nat) (j2 : Int32) (Mb : Nat → Nat → Int32) (v_11 : Int32) (eM0 : M0 = fun _ _ => 0) (hn_79 : 10 - k.toNatClampNeg < n_79 + 1) (h0k : 0 ≤ k) (vpd : okWh pd) (hpd : ∀ i : Nat, i < k.toNatClampNeg → pd i = -1) (hMa : ∀ i j : Nat, i < k.toNatClampNeg → j < 10 → Ma i j = -1) (c_9 : ¬ 10 ≤ k) (hn_94 : 10 - j2.toNatClampNeg < n_94 + 1) (h0j2 : 0 ≤ j2) (hMb : (∀ i j : Nat, i < k.toNatClampNeg → j < 10 → Mb i j = -1) ∧ ∀ q : Nat, q < j2.toNatClampNeg → Mb k.toNatClampNeg q = -1) (c_10 : 10 ≤ j2) (ev_11 : v_11 = k + 1) : okWh (upd pd k.toNatClampNeg (-1)) := by
  exact okWh_upd vpd (by decide) (by decide)
set_option maxHeartbeats 1000000 in
theorem pf_X1_init_9 (M0 : Nat → Nat → Int32) (n_79 : Nat) (k : Int32) (pd : Nat → Int32) (Ma : Nat → Nat → Int32) (n_94 : Nat) (j2 : Int32) (Mb : Nat → Nat → Int32) (v_11 : Int32) (eM0 : M0 = fun _ _ => 0) (hn_79 : 10 - k.toNatClampNeg < n_79 + 1) (h0k : 0 ≤ k) (vpd : okWh pd) (hpd : ∀ i : Nat, i < k.toNatClampNeg → pd i = -1) (hMa : ∀ i j : Nat, i < k.toNatClampNeg → j < 10 → Ma i j = -1) (c_9 : ¬ 10 ≤ k) (hn_94 : 10 - j2.toNatClampNeg < n_94 + 1) (h0j2 : 0 ≤ j2) (hMb : (∀ i j : Nat, i < k.toNatClampNeg → j < 10 → Mb i j = -1) ∧ ∀ q : Nat, q < j2.toNatClampNeg → Mb k.toNatClampNeg q = -1) (c_10 : 10 ≤ j2) (ev_11 : v_11 = k + 1) : ∀ i : Nat, i < v_11.toNatClampNeg → (upd pd k.toNatClampNeg (-1)) i = -1 := by
  exact all_s h0k (by grind) (by assumption) hpd
set_option maxHeartbeats 1000000 in
theorem pf_X1_init_10 (M0 : Nat → Nat → Int32) (n_79 : Nat) (k : Int32) (pd : Nat → Int32) (Ma : Nat → Nat → Int32) (n_94 : Nat) (j2 : Int32) (Mb : Nat → Nat → Int32) (v_11 : Int32) (eM0 : M0 = fun _ _ => 0) (hn_79 : 10 - k.toNatClampNeg < n_79 + 1) (h0k : 0 ≤ k) (vpd : okWh pd) (hpd : ∀ i : Nat, i < k.toNatClampNeg → pd i = -1) (hMa : ∀ i j : Nat, i < k.toNatClampNeg → j < 10 → Ma i j = -1) (c_9 : ¬ 10 ≤ k) (hn_94 : 10 - j2.toNatClampNeg < n_94 + 1) (h0j2 : 0 ≤ j2) (hMb : (∀ i j : Nat, i < k.toNatClampNeg → j < 10 → Mb i j = -1) ∧ ∀ q : Nat, q < j2.toNatClampNeg → Mb k.toNatClampNeg q = -1) (c_10 : 10 ≤ j2) (ev_11 : v_11 = k + 1) : ∀ i j : Nat, i < v_11.toNatClampNeg → j < 10 → Mb i j = -1 := by
  exact mi_k h0k (by grind) (by assumption) (by assumption) hMb
set_option maxHeartbeats 1000000 in
theorem pf_X1_init_11 (M0 : Nat → Nat → Int32) (n_79 : Nat) (k : Int32) (pd : Nat → Int32) (Ma : Nat → Nat → Int32) (n_94 : Nat) (j2 : Int32) (Mb : Nat → Nat → Int32) (eM0 : M0 = fun _ _ => 0) (hn_79 : 10 - k.toNatClampNeg < n_79 + 1) (h0k : 0 ≤ k) (vpd : okWh pd) (hpd : ∀ i : Nat, i < k.toNatClampNeg → pd i = -1) (hMa : ∀ i j : Nat, i < k.toNatClampNeg → j < 10 → Ma i j = -1) (c_9 : ¬ 10 ≤ k) (hn_94 : 10 - j2.toNatClampNeg < n_94 + 1) (h0j2 : 0 ≤ j2) (hMb : (∀ i j : Nat, i < k.toNatClampNeg → j < 10 → Mb i j = -1) ∧ ∀ q : Nat, q < j2.toNatClampNeg → Mb k.toNatClampNeg q = -1) (c_10 : ¬ 10 ≤ j2) : vp_in k 10 := by
  exact vi_in (M := 10) rfl (by grind) (by grind)
set_option maxHeartbeats 1000000 in
theorem pf_X1_init_12 (M0 : Nat → Nat → Int32) (n_79 : Nat) (k : Int32) (pd : Nat → Int32) (Ma : Nat → Nat → Int32) (n_94 : Nat) (j2 : Int32) (Mb : Nat → Nat → Int32) (eM0 : M0 = fun _ _ => 0) (hn_79 : 10 - k.toNatClampNeg < n_79 + 1) (h0k : 0 ≤ k) (vpd : okWh pd) (hpd : ∀ i : Nat, i < k.toNatClampNeg → pd i = -1) (hMa : ∀ i j : Nat, i < k.toNatClampNeg → j < 10 → Ma i j = -1) (c_9 : ¬ 10 ≤ k) (hn_94 : 10 - j2.toNatClampNeg < n_94 + 1) (h0j2 : 0 ≤ j2) (hMb : (∀ i j : Nat, i < k.toNatClampNeg → j < 10 → Mb i j = -1) ∧ ∀ q : Nat, q < j2.toNatClampNeg → Mb k.toNatClampNeg q = -1) (c_10 : ¬ 10 ≤ j2) : k.toNatClampNeg < 10 := by
  refine cl_lt (n := 10) ?_
  exact vi_in (M := 10) rfl (by grind) (by grind)
set_option maxHeartbeats 1000000 in
theorem pf_X1_init_13 (M0 : Nat → Nat → Int32) (n_79 : Nat) (k : Int32) (pd : Nat → Int32) (Ma : Nat → Nat → Int32) (n_94 : Nat) (j2 : Int32) (Mb : Nat → Nat → Int32) (eM0 : M0 = fun _ _ => 0) (hn_79 : 10 - k.toNatClampNeg < n_79 + 1) (h0k : 0 ≤ k) (vpd : okWh pd) (hpd : ∀ i : Nat, i < k.toNatClampNeg → pd i = -1) (hMa : ∀ i j : Nat, i < k.toNatClampNeg → j < 10 → Ma i j = -1) (c_9 : ¬ 10 ≤ k) (hn_94 : 10 - j2.toNatClampNeg < n_94 + 1) (h0j2 : 0 ≤ j2) (hMb : (∀ i j : Nat, i < k.toNatClampNeg → j < 10 → Mb i j = -1) ∧ ∀ q : Nat, q < j2.toNatClampNeg → Mb k.toNatClampNeg q = -1) (c_10 : ¬ 10 ≤ j2) : vp_in j2 10 := by
  exact vi_in (M := 10) rfl (by grind) (by grind)
set_option maxHeartbeats 1000000 in
theorem pf_X1_init_14 (M0 : Nat → Nat → Int32) (n_79 : Nat) (k : Int32) (pd : Nat → Int32) (Ma : Nat → Nat → Int32) (n_94 : Nat) (j2 : Int32) (Mb : Nat → Nat → Int32) (M_12 : Nat → Nat → Int32) (v_13 : Int32) (eM0 : M0 = fun _ _ => 0) (hn_79 : 10 - k.toNatClampNeg < n_79 + 1) (h0k : 0 ≤ k) (vpd : okWh pd) (hpd : ∀ i : Nat, i < k.toNatClampNeg → pd i = -1) (hMa : ∀ i j : Nat, i < k.toNatClampNeg → j < 10 → Ma i j = -1) (c_9 : ¬ 10 ≤ k) (hn_94 : 10 - j2.toNatClampNeg < n_94 + 1) (h0j2 : 0 ≤ j2) (hMb : (∀ i j : Nat, i < k.toNatClampNeg → j < 10 → Mb i j = -1) ∧ ∀ q : Nat, q < j2.toNatClampNeg → Mb k.toNatClampNeg q = -1) (c_10 : ¬ 10 ≤ j2) (eM_12 : M_12 = va_up Mb k.toNatClampNeg (upd (Mb k.toNatClampNeg) j2.toNatClampNeg (-1))) (ev_13 : v_13 = j2 + 1) : 10 - v_13.toNatClampNeg < n_94 := by
  exact ms_dec (L := 10) (k := j2) (by grind) (show ¬ (10 : Int32) ≤ j2 by grind) (by omega) (by assumption) hn_94
set_option maxHeartbeats 1000000 in
theorem pf_X1_init_15 (M0 : Nat → Nat → Int32) (n_79 : Nat) (k : Int32) (pd : Nat → Int32) (Ma : Nat → Nat → Int32) (n_94 : Nat) (j2 : Int32) (Mb : Nat → Nat → Int32) (M_12 : Nat → Nat → Int32) (v_13 : Int32) (eM0 : M0 = fun _ _ => 0) (hn_79 : 10 - k.toNatClampNeg < n_79 + 1) (h0k : 0 ≤ k) (vpd : okWh pd) (hpd : ∀ i : Nat, i < k.toNatClampNeg → pd i = -1) (hMa : ∀ i j : Nat, i < k.toNatClampNeg → j < 10 → Ma i j = -1) (c_9 : ¬ 10 ≤ k) (hn_94 : 10 - j2.toNatClampNeg < n_94 + 1) (h0j2 : 0 ≤ j2) (hMb : (∀ i j : Nat, i < k.toNatClampNeg → j < 10 → Mb i j = -1) ∧ ∀ q : Nat, q < j2.toNatClampNeg → Mb k.toNatClampNeg q = -1) (c_10 : ¬ 10 ≤ j2) (eM_12 : M_12 = va_up Mb k.toNatClampNeg (upd (Mb k.toNatClampNeg) j2.toNatClampNeg (-1))) (ev_13 : v_13 = j2 + 1) : 0 ≤ v_13 := by
  grind
set_option maxHeartbeats 1000000 in
theorem pf_X1_init_16 (M0 : Nat → Nat → Int32) (n_79 : Nat) (k : Int32) (pd : Nat → Int32) (Ma : Nat → Nat → Int32) (n_94 : Nat) (j2 : Int32) (Mb : Nat → Nat → Int32) (M_12 : Nat → Nat → Int32) (v_13 : Int32) (eM0 : M0 = fun _ _ => 0) (hn_79 : 10 - k.toNatClampNeg < n_79 + 1) (h0k : 0 ≤ k) (vpd : okWh pd) (hpd : ∀ i : Nat, i < k.toNatClampNeg → pd i = -1) (hMa : ∀ i j : Nat, i < k.toNatClampNeg → j < 10 → Ma i j = -1) (c_9 : ¬ 10 ≤ k) (hn_94 : 10 - j2.toNatClampNeg < n_94 + 1) (h0j2 : 0 ≤ j2) (hMb : (∀ i j : Nat, i < k.toNatClampNeg → j < 10 → Mb i j = -1) ∧ ∀ q : Nat, q < j2.toNatClampNeg → Mb k.toNatClampNeg q = -1) (c_10 : ¬ 10 ≤ j2) (eM_12 : M_12 = va_up Mb k.toNatClampNeg (upd (Mb k.toNatClampNeg) j2.toNatClampNeg (-1))) (ev_13 : v_13 = j2 + 1) : (∀ i j : Nat, i < k.toNatClampNeg → j < 10 → M_12 i j = -1) ∧ ∀ q : Nat, q < v_13.toNatClampNeg → M_12 k.toNatClampNeg q = -1 := by
  exact mi_s h0j2 (by grind) (by assumption) (by assumption) hMb
set_option maxHeartbeats 1000000 in
theorem pf_X1_init_17 (M0 : Nat → Nat → Int32) (n_79 : Nat) (k : Int32) (pd : Nat → Int32) (Ma : Nat → Nat → Int32) (eM0 : M0 = fun _ _ => 0) (hn_79 : 10 - k.toNatClampNeg < n_79 + 1) (h0k : 0 ≤ k) (vpd : okWh pd) (hpd : ∀ i : Nat, i < k.toNatClampNeg → pd i = -1) (hMa : ∀ i j : Nat, i < k.toNatClampNeg → j < 10 → Ma i j = -1) (c_9 : ¬ 10 ≤ k) : 0 ≤ (0 : Int32) := by
  grind
set_option maxHeartbeats 1000000 in
theorem pf_X1_init_18 (M0 : Nat → Nat → Int32) (n_79 : Nat) (k : Int32) (pd : Nat → Int32) (Ma : Nat → Nat → Int32) (eM0 : M0 = fun _ _ => 0) (hn_79 : 10 - k.toNatClampNeg < n_79 + 1) (h0k : 0 ≤ k) (vpd : okWh pd) (hpd : ∀ i : Nat, i < k.toNatClampNeg → pd i = -1) (hMa : ∀ i j : Nat, i < k.toNatClampNeg → j < 10 → Ma i j = -1) (c_9 : ¬ 10 ≤ k) : (∀ i j : Nat, i < k.toNatClampNeg → j < 10 → Ma i j = -1) ∧ ∀ q : Nat, q < (0 : Int32).toNatClampNeg → Ma k.toNatClampNeg q = -1 := by
  exact ⟨hMa, fun q hq => absurd hq (by simp)⟩
set_option maxHeartbeats 1000000 in
theorem pf_X1_init_19 (M0 : Nat → Nat → Int32) (eM0 : M0 = fun _ _ => 0) : 0 ≤ (0 : Int32) := by
  grind
set_option maxHeartbeats 1000000 in
theorem pf_X1_init_20 (M0 : Nat → Nat → Int32) (eM0 : M0 = fun _ _ => 0) : okWh (fun _ => (0 : Int32)) := by
  intro j
  show (-1 : Int32) ≤ 0 ∧ (0 : Int32) ≤ 39
  decide
set_option maxHeartbeats 1000000 in
theorem pf_X1_init_21 (M0 : Nat → Nat → Int32) (eM0 : M0 = fun _ _ => 0) : ∀ i : Nat, i < (0 : Int32).toNatClampNeg → (fun _ => (0 : Int32)) i = -1 := by
  intro i hi
  exact absurd hi (by simp)
set_option maxHeartbeats 1000000 in
theorem pf_X1_init_22 (M0 : Nat → Nat → Int32) (eM0 : M0 = fun _ _ => 0) : ∀ i j : Nat, i < (0 : Int32).toNatClampNeg → j < 10 → M0 i j = -1 := by
  intro i j hi
  exact absurd hi (by simp)
set_option maxHeartbeats 4000000 in
set_option maxRecDepth 100000 in
theorem c_X1_init (l : Launch) (D : va_G) (cI cQ : ClassId) (sz : Nat) (h1 : Nat) : CtV l yX1_init wsX1_init 1 12 18 180 [.ref h1] D [(cI, .int), (cQ, .array .int)] [(h1, .inr (1, [.null, .null, .null, .null, .null, .null, .null, .null, .int 0]))] sz (fun (u : Nat × Nat × Nat × Nat × Nat × Nat × Nat × Nat × (Nat → Int32) × (Nat → Int32) × (Nat → Int32) × (Nat → Int32) × (Nat → Int32) × (Nat → Int32) × (Nat → Int32) × (Nat → Nat) × (Nat → Nat → Int32)) => okSz u.2.2.2.2.2.2.2.2.2.2.2.1 ∧ (∀ i j : Nat, i < 10 → j < 10 → u.2.2.2.2.2.2.2.2.2.2.2.2.2.2.2.2 i j = -1) ∧ (∀ i : Nat, i < 10 → u.2.2.2.2.2.2.2.2.2.2.2.2.2.1 i = -1) ∧ okWh u.2.2.2.2.2.2.2.2.2.2.2.2.2.1) (fun (u : Nat × Nat × Nat × Nat × Nat × Nat × Nat × Nat × (Nat → Int32) × (Nat → Int32) × (Nat → Int32) × (Nat → Int32) × (Nat → Int32) × (Nat → Int32) × (Nat → Int32) × (Nat → Nat) × (Nat → Nat → Int32)) => [(h1, .inr (1, [.ref u.1, .ref u.2.1, .ref u.2.2.1, .ref u.2.2.2.1, .ref u.2.2.2.2.1, .ref u.2.2.2.2.2.1, .ref u.2.2.2.2.2.2.1, .ref u.2.2.2.2.2.2.2.1, .int 0])), (u.1, .inl (cI, 10, .inl u.2.2.2.2.2.2.2.2.1)), (u.2.1, .inl (cI, 10, .inl u.2.2.2.2.2.2.2.2.2.1)), (u.2.2.1, .inl (cI, 10, .inl u.2.2.2.2.2.2.2.2.2.2.1)), (u.2.2.2.1, .inl (cI, 10, .inl u.2.2.2.2.2.2.2.2.2.2.2.1)), (u.2.2.2.2.1, .inl (cI, 10, .inl u.2.2.2.2.2.2.2.2.2.2.2.2.1)), (u.2.2.2.2.2.1, .inl (cI, 10, .inl u.2.2.2.2.2.2.2.2.2.2.2.2.2.1)), (u.2.2.2.2.2.2.2.1, .inl (cI, 10, .inl u.2.2.2.2.2.2.2.2.2.2.2.2.2.2.1)), (u.2.2.2.2.2.2.1, .inl (cQ, 10, .inr (.inr (.inr (.inr (fun i => if i < 10 then some (u.2.2.2.2.2.2.2.2.2.2.2.2.2.2.2.1 i) else none)))))), ((u.2.2.2.2.2.2.2.2.2.2.2.2.2.2.2.1 0), .inl (cI, 10, .inl (u.2.2.2.2.2.2.2.2.2.2.2.2.2.2.2.2 0))), ((u.2.2.2.2.2.2.2.2.2.2.2.2.2.2.2.1 1), .inl (cI, 10, .inl (u.2.2.2.2.2.2.2.2.2.2.2.2.2.2.2.2 1))), ((u.2.2.2.2.2.2.2.2.2.2.2.2.2.2.2.1 2), .inl (cI, 10, .inl (u.2.2.2.2.2.2.2.2.2.2.2.2.2.2.2.2 2))), ((u.2.2.2.2.2.2.2.2.2.2.2.2.2.2.2.1 3), .inl (cI, 10, .inl (u.2.2.2.2.2.2.2.2.2.2.2.2.2.2.2.2 3))), ((u.2.2.2.2.2.2.2.2.2.2.2.2.2.2.2.1 4), .inl (cI, 10, .inl (u.2.2.2.2.2.2.2.2.2.2.2.2.2.2.2.2 4))), ((u.2.2.2.2.2.2.2.2.2.2.2.2.2.2.2.1 5), .inl (cI, 10, .inl (u.2.2.2.2.2.2.2.2.2.2.2.2.2.2.2.2 5))), ((u.2.2.2.2.2.2.2.2.2.2.2.2.2.2.2.1 6), .inl (cI, 10, .inl (u.2.2.2.2.2.2.2.2.2.2.2.2.2.2.2.2 6))), ((u.2.2.2.2.2.2.2.2.2.2.2.2.2.2.2.1 7), .inl (cI, 10, .inl (u.2.2.2.2.2.2.2.2.2.2.2.2.2.2.2.2 7))), ((u.2.2.2.2.2.2.2.2.2.2.2.2.2.2.2.1 8), .inl (cI, 10, .inl (u.2.2.2.2.2.2.2.2.2.2.2.2.2.2.2.2 8))), ((u.2.2.2.2.2.2.2.2.2.2.2.2.2.2.2.1 9), .inl (cI, 10, .inl (u.2.2.2.2.2.2.2.2.2.2.2.2.2.2.2.2 9)))]) := by
  refine Met.ofW (cc := cX1_init) (maxL := 3) (ret := none) (by decide) rfl ?_
  intro p e s m args below meth c s₁ B hml hv
  obtain ⟨rfl, hsz, hP, hK, hD0, hN⟩ := hv
  have hx := B.exec
  have hb := B.bytes
  have hr := B.returns
  have hts := atoms_spec (ws := wsX1_init) B.pre
  have hown : s.vm.findClass RX1 = some m.cls := findClass_of_methodNamed B.named
  have hlocks := B.notSynchronized
  have hin : meth.name = "<init>" := (name_of_methodNamed B.named B.method).1
  subst hsz
  have hD := hD0.self (sz := s.heap.size)
  generalize hAe : va_A [(h1, .inr (1, [.null, .null, .null, .null, .null, .null, .null, .null, .int 0]))] s.heap.size = A at hD ⊢
  have hA : ∀ q : Nat, s.heap.size ≤ q → A q := fun q h => by rw [← hAe]; exact Or.inr h
  have hS : va_S A s.heap s.heap [] := va_S.rf
  have hl := lv_entry ([.ref h1]) (n := 3) (Nat.le_of_ble_eq_true rfl)
  rw [lg_entry_eq]
  generalize (lg_sl ([.ref h1]) ++ List.replicate (3 - (lg_sl ([.ref h1])).length) Slot.unset).toArray = ls at hl ⊢
  have hl : lv_has ls 3 [(0, .ref h1)] := hl
  refine W_gen (fun GW hIn hOut => ?_)
  refine hIn _ _ _ _ _ ?_
  have hP0 := hP
  refine lv_aload_n hx hb dX1_init_0 rfl (lv_at hl 0 rfl) ?_
  refine W.objInit hx hb hown (hts _ wd_X1_init_1) (hts _ wd_X1_init_2) (hts _ wd_X1_init_3) rfl (by rw [hml]; exact hl.1) rfl dX1_init_1 (Nat.le_of_ble_eq_true rfl) (Nat.le_of_ble_eq_true rfl) ?_
  refine W.eq (g2 := F0 m 4 ls []) rfl ?_
  refine lv_aload_n hx hb dX1_init_4 rfl (lv_at hl 0 rfl) ?_
  refine lv_bipush (v := 10) hx hb dX1_init_5 (by decide) ?_
  refine va_newa (atype := .int) (a0 := (10, .inl (fun _ => (0 : Int32)))) (N' := 10) hx hb (hts _ wd_X1_init_4) rfl hK hP hD hS hA (fun _ => rfl) (by decide) (by decide) (by decide) (Nat.le_of_ble_eq_true rfl) (Nat.le_of_ble_eq_true rfl) dX1_init_7 (fun q_1 cA H hK hP hD hS => ?_)
  have ecA := (cA_is (t0 := 0) (t1 := 2) hK rfl rfl).symm
  subst ecA
  have hK := hK.sub (tys' := [(cI, .int), (cQ, .array .int)]) [0, 1] rfl
  have hP : va_P D vwCl [(h1, .inr (1, [.null, .null, .null, .null, .null, .null, .null, .null, .int 0])), (q_1, .inl (cI, 10, .inl (fun _ => (0 : Int32))))] H := hP
  have hD : va_D A [(h1, .inr (1, [.null, .null, .null, .null, .null, .null, .null, .null, .int 0])), (q_1, .inl (cI, 10, .inl (fun _ => (0 : Int32))))] := hD
  refine W.widen (k := 1) (n := 10) (Nat.le_of_ble_eq_true rfl) (Nat.le_of_ble_eq_true rfl) ?_
  refine va_putF (D := D) (ci := 1) (v := .ref q_1) (ty := .array .int) (C := RX1) (T := TX1) (N := 9) hx hb hts iw_X1_init_1 tyX1 tyX1_ok nmX1 hown hK hP hD hS 0 rfl rfl 0 (by decide) (hts _ wd_X1_init_5) (fun _ h9 => h9) rfl hin rfl (by decide +kernel) rfl rfl (Nat.le_of_ble_eq_true rfl) dX1_init_9 (fun H locs hP hD hS => ?_)
  have hP : va_P D vwCl [(h1, .inr (1, [.ref q_1, .null, .null, .null, .null, .null, .null, .null, .int 0])), (q_1, .inl (cI, 10, .inl (fun _ => (0 : Int32))))] H := hP
  have hD : va_D A [(h1, .inr (1, [.ref q_1, .null, .null, .null, .null, .null, .null, .null, .int 0])), (q_1, .inl (cI, 10, .inl (fun _ => (0 : Int32))))] := hD
  refine lv_aload_n hx hb dX1_init_12 rfl (lv_at hl 0 rfl) ?_
  refine lv_bipush (v := 10) hx hb dX1_init_13 (by decide) ?_
  refine va_newa (atype := .int) (a0 := (10, .inl (fun _ => (0 : Int32)))) (N' := 10) hx hb (hts _ wd_X1_init_4) rfl hK hP hD hS hA (fun _ => rfl) (by decide) (by decide) (by decide) (Nat.le_of_ble_eq_true rfl) (Nat.le_of_ble_eq_true rfl) dX1_init_15 (fun q_2 cA H hK hP hD hS => ?_)
  have ecA := (cA_is (t0 := 0) (t1 := 2) hK rfl rfl).symm
  subst ecA
  have hK := hK.sub (tys' := [(cI, .int), (cQ, .array .int)]) [0, 1] rfl
  have hP : va_P D vwCl [(h1, .inr (1, [.ref q_1, .null, .null, .null, .null, .null, .null, .null, .int 0])), (q_1, .inl (cI, 10, .inl (fun _ => (0 : Int32)))), (q_2, .inl (cI, 10, .inl (fun _ => (0 : Int32))))] H := hP
  have hD : va_D A [(h1, .inr (1, [.ref q_1, .null, .null, .null, .null, .null, .null, .null, .int 0])), (q_1, .inl (cI, 10, .inl (fun _ => (0 : Int32)))), (q_2, .inl (cI, 10, .inl (fun _ => (0 : Int32))))] := hD
  refine W.widen (k := 2) (n := 20) (Nat.le_of_ble_eq_true rfl) (Nat.le_of_ble_eq_true rfl) ?_
  refine va_putF (D := D) (ci := 1) (v := .ref q_2) (ty := .array .int) (C := RX1) (T := TX1) (N := 9) hx hb hts iw_X1_init_1 tyX1 tyX1_ok nmX1 hown hK hP hD hS 0 rfl rfl 1 (by decide) (hts _ wd_X1_init_6) (fun _ h9 => h9) rfl hin rfl (by decide +kernel) rfl rfl (Nat.le_of_ble_eq_true rfl) dX1_init_17 (fun H locs hP hD hS => ?_)
  have hP : va_P D vwCl [(h1, .inr (1, [.ref q_1, .ref q_2, .null, .null, .null, .null, .null, .null, .int 0])), (q_1, .inl (cI, 10, .inl (fun _ => (0 : Int32)))), (q_2, .inl (cI, 10, .inl (fun _ => (0 : Int32))))] H := hP
  have hD : va_D A [(h1, .inr (1, [.ref q_1, .ref q_2, .null, .null, .null, .null, .null, .null, .int 0])), (q_1, .inl (cI, 10, .inl (fun _ => (0 : Int32)))), (q_2, .inl (cI, 10, .inl (fun _ => (0 : Int32))))] := hD
  refine lv_aload_n hx hb dX1_init_20 rfl (lv_at hl 0 rfl) ?_
  refine lv_bipush (v := 10) hx hb dX1_init_21 (by decide) ?_
  refine va_newa (atype := .int) (a0 := (10, .inl (fun _ => (0 : Int32)))) (N' := 10) hx hb (hts _ wd_X1_init_4) rfl hK hP hD hS hA (fun _ => rfl) (by decide) (by decide) (by decide) (Nat.le_of_ble_eq_true rfl) (Nat.le_of_ble_eq_true rfl) dX1_init_23 (fun q_3 cA H hK hP hD hS => ?_)
  have ecA := (cA_is (t0 := 0) (t1 := 2) hK rfl rfl).symm
  subst ecA
  have hK := hK.sub (tys' := [(cI, .int), (cQ, .array .int)]) [0, 1] rfl
  have hP : va_P D vwCl [(h1, .inr (1, [.ref q_1, .ref q_2, .null, .null, .null, .null, .null, .null, .int 0])), (q_1, .inl (cI, 10, .inl (fun _ => (0 : Int32)))), (q_2, .inl (cI, 10, .inl (fun _ => (0 : Int32)))), (q_3, .inl (cI, 10, .inl (fun _ => (0 : Int32))))] H := hP
  have hD : va_D A [(h1, .inr (1, [.ref q_1, .ref q_2, .null, .null, .null, .null, .null, .null, .int 0])), (q_1, .inl (cI, 10, .inl (fun _ => (0 : Int32)))), (q_2, .inl (cI, 10, .inl (fun _ => (0 : Int32)))), (q_3, .inl (cI, 10, .inl (fun _ => (0 : Int32))))] := hD
  refine W.widen (k := 3) (n := 30) (Nat.le_of_ble_eq_true rfl) (Nat.le_of_ble_eq_true rfl) ?_
  refine va_putF (D := D) (ci := 1) (v := .ref q_3) (ty := .array .int) (C := RX1) (T := TX1) (N := 9) hx hb hts iw_X1_init_1 tyX1 tyX1_ok nmX1 hown hK hP hD hS 0 rfl rfl 2 (by decide) (hts _ wd_X1_init_7) (fun _ h9 => h9) rfl hin rfl (by decide +kernel) rfl rfl (Nat.le_of_ble_eq_true rfl) dX1_init_25 (fun H locs hP hD hS => ?_)
  have hP : va_P D vwCl [(h1, .inr (1, [.ref q_1, .ref q_2, .ref q_3, .null, .null, .null, .null, .null, .int 0])), (q_1, .inl (cI, 10, .inl (fun _ => (0 : Int32)))), (q_2, .inl (cI, 10, .inl (fun _ => (0 : Int32)))), (q_3, .inl (cI, 10, .inl (fun _ => (0 : Int32))))] H := hP
  have hD : va_D A [(h1, .inr (1, [.ref q_1, .ref q_2, .ref q_3, .null, .null, .null, .null, .null, .int 0])), (q_1, .inl (cI, 10, .inl (fun _ => (0 : Int32)))), (q_2, .inl (cI, 10, .inl (fun _ => (0 : Int32)))), (q_3, .inl (cI, 10, .inl (fun _ => (0 : Int32))))] := hD
  refine lv_aload_n hx hb dX1_init_28 rfl (lv_at hl 0 rfl) ?_
  refine lv_bipush (v := 10) hx hb dX1_init_29 (by decide) ?_
  refine va_newa (atype := .int) (a0 := (10, .inl (fun _ => (0 : Int32)))) (N' := 10) hx hb (hts _ wd_X1_init_4) rfl hK hP hD hS hA (fun _ => rfl) (by decide) (by decide) (by decide) (Nat.le_of_ble_eq_true rfl) (Nat.le_of_ble_eq_true rfl) dX1_init_31 (fun q_4 cA H hK hP hD hS => ?_)
  have ecA := (cA_is (t0 := 0) (t1 := 2) hK rfl rfl).symm
  subst ecA
  have hK := hK.sub (tys' := [(cI, .int), (cQ, .array .int)]) [0, 1] rfl
  have hP : va_P D vwCl [(h1, .inr (1, [.ref q_1, .ref q_2, .ref q_3, .null, .null, .null, .null, .null, .int 0])), (q_1, .inl (cI, 10, .inl (fun _ => (0 : Int32)))), (q_2, .inl (cI, 10, .inl (fun _ => (0 : Int32)))), (q_3, .inl (cI, 10, .inl (fun _ => (0 : Int32)))), (q_4, .inl (cI, 10, .inl (fun _ => (0 : Int32))))] H := hP
  have hD : va_D A [(h1, .inr (1, [.ref q_1, .ref q_2, .ref q_3, .null, .null, .null, .null, .null, .int 0])), (q_1, .inl (cI, 10, .inl (fun _ => (0 : Int32)))), (q_2, .inl (cI, 10, .inl (fun _ => (0 : Int32)))), (q_3, .inl (cI, 10, .inl (fun _ => (0 : Int32)))), (q_4, .inl (cI, 10, .inl (fun _ => (0 : Int32))))] := hD
  refine W.widen (k := 4) (n := 40) (Nat.le_of_ble_eq_true rfl) (Nat.le_of_ble_eq_true rfl) ?_
  refine va_putF (D := D) (ci := 1) (v := .ref q_4) (ty := .array .int) (C := RX1) (T := TX1) (N := 9) hx hb hts iw_X1_init_1 tyX1 tyX1_ok nmX1 hown hK hP hD hS 0 rfl rfl 3 (by decide) (hts _ wd_X1_init_8) (fun _ h9 => h9) rfl hin rfl (by decide +kernel) rfl rfl (Nat.le_of_ble_eq_true rfl) dX1_init_33 (fun H locs hP hD hS => ?_)
  have hP : va_P D vwCl [(h1, .inr (1, [.ref q_1, .ref q_2, .ref q_3, .ref q_4, .null, .null, .null, .null, .int 0])), (q_1, .inl (cI, 10, .inl (fun _ => (0 : Int32)))), (q_2, .inl (cI, 10, .inl (fun _ => (0 : Int32)))), (q_3, .inl (cI, 10, .inl (fun _ => (0 : Int32)))), (q_4, .inl (cI, 10, .inl (fun _ => (0 : Int32))))] H := hP
  have hD : va_D A [(h1, .inr (1, [.ref q_1, .ref q_2, .ref q_3, .ref q_4, .null, .null, .null, .null, .int 0])), (q_1, .inl (cI, 10, .inl (fun _ => (0 : Int32)))), (q_2, .inl (cI, 10, .inl (fun _ => (0 : Int32)))), (q_3, .inl (cI, 10, .inl (fun _ => (0 : Int32)))), (q_4, .inl (cI, 10, .inl (fun _ => (0 : Int32))))] := hD
  refine lv_aload_n hx hb dX1_init_36 rfl (lv_at hl 0 rfl) ?_
  refine lv_bipush (v := 10) hx hb dX1_init_37 (by decide) ?_
  refine va_newa (atype := .int) (a0 := (10, .inl (fun _ => (0 : Int32)))) (N' := 10) hx hb (hts _ wd_X1_init_4) rfl hK hP hD hS hA (fun _ => rfl) (by decide) (by decide) (by decide) (Nat.le_of_ble_eq_true rfl) (Nat.le_of_ble_eq_true rfl) dX1_init_39 (fun q_5 cA H hK hP hD hS => ?_)
  have ecA := (cA_is (t0 := 0) (t1 := 2) hK rfl rfl).symm
  subst ecA
  have hK := hK.sub (tys' := [(cI, .int), (cQ, .array .int)]) [0, 1] rfl
  have hP : va_P D vwCl [(h1, .inr (1, [.ref q_1, .ref q_2, .ref q_3, .ref q_4, .null, .null, .null, .null, .int 0])), (q_1, .inl (cI, 10, .inl (fun _ => (0 : Int32)))), (q_2, .inl (cI, 10, .inl (fun _ => (0 : Int32)))), (q_3, .inl (cI, 10, .inl (fun _ => (0 : Int32)))), (q_4, .inl (cI, 10, .inl (fun _ => (0 : Int32)))), (q_5, .inl (cI, 10, .inl (fun _ => (0 : Int32))))] H := hP
  have hD : va_D A [(h1, .inr (1, [.ref q_1, .ref q_2, .ref q_3, .ref q_4, .null, .null, .null, .null, .int 0])), (q_1, .inl (cI, 10, .inl (fun _ => (0 : Int32)))), (q_2, .inl (cI, 10, .inl (fun _ => (0 : Int32)))), (q_3, .inl (cI, 10, .inl (fun _ => (0 : Int32)))), (q_4, .inl (cI, 10, .inl (fun _ => (0 : Int32)))), (q_5, .inl (cI, 10, .inl (fun _ => (0 : Int32))))] := hD
  refine W.widen (k := 5) (n := 50) (Nat.le_of_ble_eq_true rfl) (Nat.le_of_ble_eq_true rfl) ?_
  refine va_putF (D := D) (ci := 1) (v := .ref q_5) (ty := .array .int) (C := RX1) (T := TX1) (N := 9) hx hb hts iw_X1_init_1 tyX1 tyX1_ok nmX1 hown hK hP hD hS 0 rfl rfl 4 (by decide) (hts _ wd_X1_init_9) (fun _ h9 => h9) rfl hin rfl (by decide +kernel) rfl rfl (Nat.le_of_ble_eq_true rfl) dX1_init_41 (fun H locs hP hD hS => ?_)
  have hP : va_P D vwCl [(h1, .inr (1, [.ref q_1, .ref q_2, .ref q_3, .ref q_4, .ref q_5, .null, .null, .null, .int 0])), (q_1, .inl (cI, 10, .inl (fun _ => (0 : Int32)))), (q_2, .inl (cI, 10, .inl (fun _ => (0 : Int32)))), (q_3, .inl (cI, 10, .inl (fun _ => (0 : Int32)))), (q_4, .inl (cI, 10, .inl (fun _ => (0 : Int32)))), (q_5, .inl (cI, 10, .inl (fun _ => (0 : Int32))))] H := hP
  have hD : va_D A [(h1, .inr (1, [.ref q_1, .ref q_2, .ref q_3, .ref q_4, .ref q_5, .null, .null, .null, .int 0])), (q_1, .inl (cI, 10, .inl (fun _ => (0 : Int32)))), (q_2, .inl (cI, 10, .inl (fun _ => (0 : Int32)))), (q_3, .inl (cI, 10, .inl (fun _ => (0 : Int32)))), (q_4, .inl (cI, 10, .inl (fun _ => (0 : Int32)))), (q_5, .inl (cI, 10, .inl (fun _ => (0 : Int32))))] := hD
  refine lv_aload_n hx hb dX1_init_44 rfl (lv_at hl 0 rfl) ?_
  refine lv_bipush (v := 10) hx hb dX1_init_45 (by decide) ?_
  refine va_newa (atype := .int) (a0 := (10, .inl (fun _ => (0 : Int32)))) (N' := 10) hx hb (hts _ wd_X1_init_4) rfl hK hP hD hS hA (fun _ => rfl) (by decide) (by decide) (by decide) (Nat.le_of_ble_eq_true rfl) (Nat.le_of_ble_eq_true rfl) dX1_init_47 (fun q_6 cA H hK hP hD hS => ?_)
  have ecA := (cA_is (t0 := 0) (t1 := 2) hK rfl rfl).symm
  subst ecA
  have hK := hK.sub (tys' := [(cI, .int), (cQ, .array .int)]) [0, 1] rfl
  have hP : va_P D vwCl [(h1, .inr (1, [.ref q_1, .ref q_2, .ref q_3, .ref q_4, .ref q_5, .null, .null, .null, .int 0])), (q_1, .inl (cI, 10, .inl (fun _ => (0 : Int32)))), (q_2, .inl (cI, 10, .inl (fun _ => (0 : Int32)))), (q_3, .inl (cI, 10, .inl (fun _ => (0 : Int32)))), (q_4, .inl (cI, 10, .inl (fun _ => (0 : Int32)))), (q_5, .inl (cI, 10, .inl (fun _ => (0 : Int32)))), (q_6, .inl (cI, 10, .inl (fun _ => (0 : Int32))))] H := hP
  have hD : va_D A [(h1, .inr (1, [.ref q_1, .ref q_2, .ref q_3, .ref q_4, .ref q_5, .null, .null, .null, .int 0])), (q_1, .inl (cI, 10, .inl (fun _ => (0 : Int32)))), (q_2, .inl (cI, 10, .inl (fun _ => (0 : Int32)))), (q_3, .inl (cI, 10, .inl (fun _ => (0 : Int32)))), (q_4, .inl (cI, 10, .inl (fun _ => (0 : Int32)))), (q_5, .inl (cI, 10, .inl (fun _ => (0 : Int32)))), (q_6, .inl (cI, 10, .inl (fun _ => (0 : Int32))))] := hD
  refine W.widen (k := 6) (n := 60) (Nat.le_of_ble_eq_true rfl) (Nat.le_of_ble_eq_true rfl) ?_
  refine va_putF (D := D) (ci := 1) (v := .ref q_6) (ty := .array .int) (C := RX1) (T := TX1) (N := 9) hx hb hts iw_X1_init_1 tyX1 tyX1_ok nmX1 hown hK hP hD hS 0 rfl rfl 5 (by decide) (hts _ wd_X1_init_10) (fun _ h9 => h9) rfl hin rfl (by decide +kernel) rfl rfl (Nat.le_of_ble_eq_true rfl) dX1_init_49 (fun H locs hP hD hS => ?_)
  have hP : va_P D vwCl [(h1, .inr (1, [.ref q_1, .ref q_2, .ref q_3, .ref q_4, .ref q_5, .ref q_6, .null, .null, .int 0])), (q_1, .inl (cI, 10, .inl (fun _ => (0 : Int32)))), (q_2, .inl (cI, 10, .inl (fun _ => (0 : Int32)))), (q_3, .inl (cI, 10, .inl (fun _ => (0 : Int32)))), (q_4, .inl (cI, 10, .inl (fun _ => (0 : Int32)))), (q_5, .inl (cI, 10, .inl (fun _ => (0 : Int32)))), (q_6, .inl (cI, 10, .inl (fun _ => (0 : Int32))))] H := hP
  have hD : va_D A [(h1, .inr (1, [.ref q_1, .ref q_2, .ref q_3, .ref q_4, .ref q_5, .ref q_6, .null, .null, .int 0])), (q_1, .inl (cI, 10, .inl (fun _ => (0 : Int32)))), (q_2, .inl (cI, 10, .inl (fun _ => (0 : Int32)))), (q_3, .inl (cI, 10, .inl (fun _ => (0 : Int32)))), (q_4, .inl (cI, 10, .inl (fun _ => (0 : Int32)))), (q_5, .inl (cI, 10, .inl (fun _ => (0 : Int32)))), (q_6, .inl (cI, 10, .inl (fun _ => (0 : Int32))))] := hD
  refine lv_aload_n hx hb dX1_init_52 rfl (lv_at hl 0 rfl) ?_
  refine lv_bipush (v := 10) hx hb dX1_init_53 (by decide) ?_
  refine lv_bipush (v := 10) hx hb dX1_init_55 (by decide) ?_
  refine va_mna (D := D) (cl := vwCl) (X := [(h1, .inr (1, [.ref q_1, .ref q_2, .ref q_3, .ref q_4, .ref q_5, .ref q_6, .null, .null, .int 0])), (q_1, .inl (cI, 10, .inl (fun _ => (0 : Int32)))), (q_2, .inl (cI, 10, .inl (fun _ => (0 : Int32)))), (q_3, .inl (cI, 10, .inl (fun _ => (0 : Int32)))), (q_4, .inl (cI, 10, .inl (fun _ => (0 : Int32)))), (q_5, .inl (cI, 10, .inl (fun _ => (0 : Int32)))), (q_6, .inl (cI, 10, .inl (fun _ => (0 : Int32))))]) (L := []) (f := fun _ => .inl (cI, 10, .inl (fun _ => (0 : Int32)))) (ty := .int) (cy := cI) (z := (10, .inl (fun _ => (0 : Int32)))) (N' := 10) (K' := 10) hx hb hown (hts _ wd_X1_init_11) (over_moved (Vm.Alike.refl _) hN.2) (hts _ wd_X1_init_4) (va_nm_int (hK.2 0 _ rfl).2) hK hP hD hS hA (by decide) (by decide) (by decide) (by decide) (by decide) (by decide) (by decide) rfl rfl (Nat.le_of_ble_eq_true rfl) (Nat.le_of_ble_eq_true rfl) (fun c9 => arrV_new c9 10 (.int 0)) dX1_init_57 (fun q_7 rr cA H hrr hrl hK hP hD hS => ?_)
  have ecA := (cQ_is (t0 := 1) (t1 := 2) hK rfl rfl).symm
  subst ecA
  have hK := hK.sub (tys' := [(cI, .int), (cQ, .array .int)]) [0, 1] rfl
  rw [rows_lay] at hP hD
  obtain ⟨M0, eM0⟩ : ∃ M0 : Nat → Nat → Int32, M0 = fun _ _ => 0 := ⟨_, rfl⟩
  have hP : va_P D vwCl [(h1, .inr (1, [.ref q_1, .ref q_2, .ref q_3, .ref q_4, .ref q_5, .ref q_6, .null, .null, .int 0])), (q_1, .inl (cI, 10, .inl (fun _ => (0 : Int32)))), (q_2, .inl (cI, 10, .inl (fun _ => (0 : Int32)))), (q_3, .inl (cI, 10, .inl (fun _ => (0 : Int32)))), (q_4, .inl (cI, 10, .inl (fun _ => (0 : Int32)))), (q_5, .inl (cI, 10, .inl (fun _ => (0 : Int32)))), (q_6, .inl (cI, 10, .inl (fun _ => (0 : Int32)))), (q_7, .inl (cQ, 10, .inr (.inr (.inr (.inr (fun i => if i < 10 then some (rr i) else none)))))), ((rr 0), .inl (cI, 10, .inl (M0 0))), ((rr 1), .inl (cI, 10, .inl (M0 1))), ((rr 2), .inl (cI, 10, .inl (M0 2))), ((rr 3), .inl (cI, 10, .inl (M0 3))), ((rr 4), .inl (cI, 10, .inl (M0 4))), ((rr 5), .inl (cI, 10, .inl (M0 5))), ((rr 6), .inl (cI, 10, .inl (M0 6))), ((rr 7), .inl (cI, 10, .inl (M0 7))), ((rr 8), .inl (cI, 10, .inl (M0 8))), ((rr 9), .inl (cI, 10, .inl (M0 9)))] H := by rw [eM0]; exact hP
  have hD : va_D A [(h1, .inr (1, [.ref q_1, .ref q_2, .ref q_3, .ref q_4, .ref q_5, .ref q_6, .null, .null, .int 0])), (q_1, .inl (cI, 10, .inl (fun _ => (0 : Int32)))), (q_2, .inl (cI, 10, .inl (fun _ => (0 : Int32)))), (q_3, .inl (cI, 10, .inl (fun _ => (0 : Int32)))), (q_4, .inl (cI, 10, .inl (fun _ => (0 : Int32)))), (q_5, .inl (cI, 10, .inl (fun _ => (0 : Int32)))), (q_6, .inl (cI, 10, .inl (fun _ => (0 : Int32)))), (q_7, .inl (cQ, 10, .inr (.inr (.inr (.inr (fun i => if i < 10 then some (rr i) else none)))))), ((rr 0), .inl (cI, 10, .inl (M0 0))), ((rr 1), .inl (cI, 10, .inl (M0 1))), ((rr 2), .inl (cI, 10, .inl (M0 2))), ((rr 3), .inl (cI, 10, .inl (M0 3))), ((rr 4), .inl (cI, 10, .inl (M0 4))), ((rr 5), .inl (cI, 10, .inl (M0 5))), ((rr 6), .inl (cI, 10, .inl (M0 6))), ((rr 7), .inl (cI, 10, .inl (M0 7))), ((rr 8), .inl (cI, 10, .inl (M0 8))), ((rr 9), .inl (cI, 10, .inl (M0 9)))] := by rw [eM0]; exact hD
  refine W.widen (k := 17) (n := 170) (Nat.le_of_ble_eq_true rfl) (Nat.le_of_ble_eq_true rfl) ?_
  refine va_putF (D := D) (ci := 1) (v := .ref q_7) (ty := .array (.array .int)) (C := RX1) (T := TX1) (N := 9) hx hb hts iw_X1_init_1 tyX1 tyX1_ok nmX1 hown hK hP hD hS 0 rfl rfl 6 (by decide) (hts _ wd_X1_init_12) (fun _ h9 => h9) rfl hin rfl (by decide +kernel) rfl rfl (Nat.le_of_ble_eq_true rfl) dX1_init_61 (fun H locs hP hD hS => ?_)
  have hP : va_P D vwCl [(h1, .inr (1, [.ref q_1, .ref q_2, .ref q_3, .ref q_4, .ref q_5, .ref q_6, .ref q_7, .null, .int 0])), (q_1, .inl (cI, 10, .inl (fun _ => (0 : Int32)))), (q_2, .inl (cI, 10, .inl (fun _ => (0 : Int32)))), (q_3, .inl (cI, 10, .inl (fun _ => (0 : Int32)))), (q_4, .inl (cI, 10, .inl (fun _ => (0 : Int32)))), (q_5, .inl (cI, 10, .inl (fun _ => (0 : Int32)))), (q_6, .inl (cI, 10, .inl (fun _ => (0 : Int32)))), (q_7, .inl (cQ, 10, .inr (.inr (.inr (.inr (fun i => if i < 10 then some (rr i) else none)))))), ((rr 0), .inl (cI, 10, .inl (M0 0))), ((rr 1), .inl (cI, 10, .inl (M0 1))), ((rr 2), .inl (cI, 10, .inl (M0 2))), ((rr 3), .inl (cI, 10, .inl (M0 3))), ((rr 4), .inl (cI, 10, .inl (M0 4))), ((rr 5), .inl (cI, 10, .inl (M0 5))), ((rr 6), .inl (cI, 10, .inl (M0 6))), ((rr 7), .inl (cI, 10, .inl (M0 7))), ((rr 8), .inl (cI, 10, .inl (M0 8))), ((rr 9), .inl (cI, 10, .inl (M0 9)))] H := hP
  have hD : va_D A [(h1, .inr (1, [.ref q_1, .ref q_2, .ref q_3, .ref q_4, .ref q_5, .ref q_6, .ref q_7, .null, .int 0])), (q_1, .inl (cI, 10, .inl (fun _ => (0 : Int32)))), (q_2, .inl (cI, 10, .inl (fun _ => (0 : Int32)))), (q_3, .inl (cI, 10, .inl (fun _ => (0 : Int32)))), (q_4, .inl (cI, 10, .inl (fun _ => (0 : Int32)))), (q_5, .inl (cI, 10, .inl (fun _ => (0 : Int32)))), (q_6, .inl (cI, 10, .inl (fun _ => (0 : Int32)))), (q_7, .inl (cQ, 10, .inr (.inr (.inr (.inr (fun i => if i < 10 then some (rr i) else none)))))), ((rr 0), .inl (cI, 10, .inl (M0 0))), ((rr 1), .inl (cI, 10, .inl (M0 1))), ((rr 2), .inl (cI, 10, .inl (M0 2))), ((rr 3), .inl (cI, 10, .inl (M0 3))), ((rr 4), .inl (cI, 10, .inl (M0 4))), ((rr 5), .inl (cI, 10, .inl (M0 5))), ((rr 6), .inl (cI, 10, .inl (M0 6))), ((rr 7), .inl (cI, 10, .inl (M0 7))), ((rr 8), .inl (cI, 10, .inl (M0 8))), ((rr 9), .inl (cI, 10, .inl (M0 9)))] := hD
  refine lv_aload_n hx hb dX1_init_64 rfl (lv_at hl 0 rfl) ?_
  refine lv_bipush (v := 10) hx hb dX1_init_65 (by decide) ?_
  refine va_newa (atype := .int) (a0 := (10, .inl (fun _ => (0 : Int32)))) (N' := 10) hx hb (hts _ wd_X1_init_4) rfl hK hP hD hS hA (fun _ => rfl) (by decide) (by decide) (by decide) (Nat.le_of_ble_eq_true rfl) (Nat.le_of_ble_eq_true rfl) dX1_init_67 (fun q_8 cA H hK hP hD hS => ?_)
  have ecA := (cA_is (t0 := 0) (t1 := 2) hK rfl rfl).symm
  subst ecA
  have hK := hK.sub (tys' := [(cI, .int), (cQ, .array .int)]) [0, 1] rfl
  have hP : va_P D vwCl [(h1, .inr (1, [.ref q_1, .ref q_2, .ref q_3, .ref q_4, .ref q_5, .ref q_6, .ref q_7, .null, .int 0])), (q_1, .inl (cI, 10, .inl (fun _ => (0 : Int32)))), (q_2, .inl (cI, 10, .inl (fun _ => (0 : Int32)))), (q_3, .inl (cI, 10, .inl (fun _ => (0 : Int32)))), (q_4, .inl (cI, 10, .inl (fun _ => (0 : Int32)))), (q_5, .inl (cI, 10, .inl (fun _ => (0 : Int32)))), (q_6, .inl (cI, 10, .inl (fun _ => (0 : Int32)))), (q_7, .inl (cQ, 10, .inr (.inr (.inr (.inr (fun i => if i < 10 then some (rr i) else none)))))), ((rr 0), .inl (cI, 10, .inl (M0 0))), ((rr 1), .inl (cI, 10, .inl (M0 1))), ((rr 2), .inl (cI, 10, .inl (M0 2))), ((rr 3), .inl (cI, 10, .inl (M0 3))), ((rr 4), .inl (cI, 10, .inl (M0 4))), ((rr 5), .inl (cI, 10, .inl (M0 5))), ((rr 6), .inl (cI, 10, .inl (M0 6))), ((rr 7), .inl (cI, 10, .inl (M0 7))), ((rr 8), .inl (cI, 10, .inl (M0 8))), ((rr 9), .inl (cI, 10, .inl (M0 9))), (q_8, .inl (cI, 10, .inl (fun _ => (0 : Int32))))] H := hP
  have hD : va_D A [(h1, .inr (1, [.ref q_1, .ref q_2, .ref q_3, .ref q_4, .ref q_5, .ref q_6, .ref q_7, .null, .int 0])), (q_1, .inl (cI, 10, .inl (fun _ => (0 : Int32)))), (q_2, .inl (cI, 10, .inl (fun _ => (0 : Int32)))), (q_3, .inl (cI, 10, .inl (fun _ => (0 : Int32)))), (q_4, .inl (cI, 10, .inl (fun _ => (0 : Int32)))), (q_5, .inl (cI, 10, .inl (fun _ => (0 : Int32)))), (q_6, .inl (cI, 10, .inl (fun _ => (0 : Int32)))), (q_7, .inl (cQ, 10, .inr (.inr (.inr (.inr (fun i => if i < 10 then some (rr i) else none)))))), ((rr 0), .inl (cI, 10, .inl (M0 0))), ((rr 1), .inl (cI, 10, .inl (M0 1))), ((rr 2), .inl (cI, 10, .inl (M0 2))), ((rr 3), .inl (cI, 10, .inl (M0 3))), ((rr 4), .inl (cI, 10, .inl (M0 4))), ((rr 5), .inl (cI, 10, .inl (M0 5))), ((rr 6), .inl (cI, 10, .inl (M0 6))), ((rr 7), .inl (cI, 10, .inl (M0 7))), ((rr 8), .inl (cI, 10, .inl (M0 8))), ((rr 9), .inl (cI, 10, .inl (M0 9))), (q_8, .inl (cI, 10, .inl (fun _ => (0 : Int32))))] := hD
  refine W.widen (k := 18) (n := 180) (Nat.le_of_ble_eq_true rfl) (Nat.le_of_ble_eq_true rfl) ?_
  refine va_putF (D := D) (ci := 1) (v := .ref q_8) (ty := .array .int) (C := RX1) (T := TX1) (N := 9) hx hb hts iw_X1_init_1 tyX1 tyX1_ok nmX1 hown hK hP hD hS 0 rfl rfl 7 (by decide) (hts _ wd_X1_init_13) (fun _ h9 => h9) rfl hin rfl (by decide +kernel) rfl rfl (Nat.le_of_ble_eq_true rfl) dX1_init_69 (fun H locs hP hD hS => ?_)
  have hP : va_P D vwCl [(h1, .inr (1, [.ref q_1, .ref q_2, .ref q_3, .ref q_4, .ref q_5, .ref q_6, .ref q_7, .ref q_8, .int 0])), (q_1, .inl (cI, 10, .inl (fun _ => (0 : Int32)))), (q_2, .inl (cI, 10, .inl (fun _ => (0 : Int32)))), (q_3, .inl (cI, 10, .inl (fun _ => (0 : Int32)))), (q_4, .inl (cI, 10, .inl (fun _ => (0 : Int32)))), (q_5, .inl (cI, 10, .inl (fun _ => (0 : Int32)))), (q_6, .inl (cI, 10, .inl (fun _ => (0 : Int32)))), (q_7, .inl (cQ, 10, .inr (.inr (.inr (.inr (fun i => if i < 10 then some (rr i) else none)))))), ((rr 0), .inl (cI, 10, .inl (M0 0))), ((rr 1), .inl (cI, 10, .inl (M0 1))), ((rr 2), .inl (cI, 10, .inl (M0 2))), ((rr 3), .inl (cI, 10, .inl (M0 3))), ((rr 4), .inl (cI, 10, .inl (M0 4))), ((rr 5), .inl (cI, 10, .inl (M0 5))), ((rr 6), .inl (cI, 10, .inl (M0 6))), ((rr 7), .inl (cI, 10, .inl (M0 7))), ((rr 8), .inl (cI, 10, .inl (M0 8))), ((rr 9), .inl (cI, 10, .inl (M0 9))), (q_8, .inl (cI, 10, .inl (fun _ => (0 : Int32))))] H := hP
  have hD : va_D A [(h1, .inr (1, [.ref q_1, .ref q_2, .ref q_3, .ref q_4, .ref q_5, .ref q_6, .ref q_7, .ref q_8, .int 0])), (q_1, .inl (cI, 10, .inl (fun _ => (0 : Int32)))), (q_2, .inl (cI, 10, .inl (fun _ => (0 : Int32)))), (q_3, .inl (cI, 10, .inl (fun _ => (0 : Int32)))), (q_4, .inl (cI, 10, .inl (fun _ => (0 : Int32)))), (q_5, .inl (cI, 10, .inl (fun _ => (0 : Int32)))), (q_6, .inl (cI, 10, .inl (fun _ => (0 : Int32)))), (q_7, .inl (cQ, 10, .inr (.inr (.inr (.inr (fun i => if i < 10 then some (rr i) else none)))))), ((rr 0), .inl (cI, 10, .inl (M0 0))), ((rr 1), .inl (cI, 10, .inl (M0 1))), ((rr 2), .inl (cI, 10, .inl (M0 2))), ((rr 3), .inl (cI, 10, .inl (M0 3))), ((rr 4), .inl (cI, 10, .inl (M0 4))), ((rr 5), .inl (cI, 10, .inl (M0 5))), ((rr 6), .inl (cI, 10, .inl (M0 6))), ((rr 7), .inl (cI, 10, .inl (M0 7))), ((rr 8), .inl (cI, 10, .inl (M0 8))), ((rr 9), .inl (cI, 10, .inl (M0 9))), (q_8, .inl (cI, 10, .inl (fun _ => (0 : Int32))))] := hD
  refine lv_aload_n hx hb dX1_init_72 rfl (lv_at hl 0 rfl) ?_
  refine lv_iconst (v := 0) hx hb dX1_init_73 (by decide) ?_
  refine va_put (D := D) (ci := 1) (v := .int 0) (ty := .int) (C := RX1) (T := TX1) (N := 9) hx hb hts iw_X1_init_1 tyX1 tyX1_ok nmX1 hown hK hP hD hS 0 rfl rfl 8 (by decide) (hts _ wd_X1_init_14) (fun _ h9 => h9) rfl (by decide +kernel) rfl rfl (Nat.le_of_ble_eq_true rfl) dX1_init_74 (fun H locs hP hD hS => ?_)
  have hP : va_P D vwCl [(h1, .inr (1, [.ref q_1, .ref q_2, .ref q_3, .ref q_4, .ref q_5, .ref q_6, .ref q_7, .ref q_8, .int 0])), (q_1, .inl (cI, 10, .inl (fun _ => (0 : Int32)))), (q_2, .inl (cI, 10, .inl (fun _ => (0 : Int32)))), (q_3, .inl (cI, 10, .inl (fun _ => (0 : Int32)))), (q_4, .inl (cI, 10, .inl (fun _ => (0 : Int32)))), (q_5, .inl (cI, 10, .inl (fun _ => (0 : Int32)))), (q_6, .inl (cI, 10, .inl (fun _ => (0 : Int32)))), (q_7, .inl (cQ, 10, .inr (.inr (.inr (.inr (fun i => if i < 10 then some (rr i) else none)))))), ((rr 0), .inl (cI, 10, .inl (M0 0))), ((rr 1), .inl (cI, 10, .inl (M0 1))), ((rr 2), .inl (cI, 10, .inl (M0 2))), ((rr 3), .inl (cI, 10, .inl (M0 3))), ((rr 4), .inl (cI, 10, .inl (M0 4))), ((rr 5), .inl (cI, 10, .inl (M0 5))), ((rr 6), .inl (cI, 10, .inl (M0 6))), ((rr 7), .inl (cI, 10, .inl (M0 7))), ((rr 8), .inl (cI, 10, .inl (M0 8))), ((rr 9), .inl (cI, 10, .inl (M0 9))), (q_8, .inl (cI, 10, .inl (fun _ => (0 : Int32))))] H := hP
  have hD : va_D A [(h1, .inr (1, [.ref q_1, .ref q_2, .ref q_3, .ref q_4, .ref q_5, .ref q_6, .ref q_7, .ref q_8, .int 0])), (q_1, .inl (cI, 10, .inl (fun _ => (0 : Int32)))), (q_2, .inl (cI, 10, .inl (fun _ => (0 : Int32)))), (q_3, .inl (cI, 10, .inl (fun _ => (0 : Int32)))), (q_4, .inl (cI, 10, .inl (fun _ => (0 : Int32)))), (q_5, .inl (cI, 10, .inl (fun _ => (0 : Int32)))), (q_6, .inl (cI, 10, .inl (fun _ => (0 : Int32)))), (q_7, .inl (cQ, 10, .inr (.inr (.inr (.inr (fun i => if i < 10 then some (rr i) else none)))))), ((rr 0), .inl (cI, 10, .inl (M0 0))), ((rr 1), .inl (cI, 10, .inl (M0 1))), ((rr 2), .inl (cI, 10, .inl (M0 2))), ((rr 3), .inl (cI, 10, .inl (M0 3))), ((rr 4), .inl (cI, 10, .inl (M0 4))), ((rr 5), .inl (cI, 10, .inl (M0 5))), ((rr 6), .inl (cI, 10, .inl (M0 6))), ((rr 7), .inl (cI, 10, .inl (M0 7))), ((rr 8), .inl (cI, 10, .inl (M0 8))), ((rr 9), .inl (cI, 10, .inl (M0 9))), (q_8, .inl (cI, 10, .inl (fun _ => (0 : Int32))))] := hD
  refine lv_iconst (v := 0) hx hb dX1_init_77 (by decide) ?_
  refine lv_istore_n (lv' := [(1, .int 0), (0, .ref h1)]) hx hb dX1_init_78 rfl hl (by decide) rfl (fun ls hl => ?_)
  have lp_79 : ∀ (n : Nat) (k : Int32) (pd : Nat → Int32) (Ma : Nat → Nat → Int32) (H : Heap) (locs : List Loc) (ls : Array Slot), 10 - k.toNatClampNeg < n → (0 ≤ k) → (okWh pd) → (∀ i : Nat, i < k.toNatClampNeg → pd i = -1) → (∀ i j : Nat, i < k.toNatClampNeg → j < 10 → Ma i j = -1) → va_P D vwCl [(h1, .inr (1, [.ref q_1, .ref q_2, .ref q_3, .ref q_4, .ref q_5, .ref q_6, .ref q_7, .ref q_8, .int 0])), (q_1, .inl (cI, 10, .inl (fun _ => (0 : Int32)))), (q_2, .inl (cI, 10, .inl (fun _ => (0 : Int32)))), (q_3, .inl (cI, 10, .inl (fun _ => (0 : Int32)))), (q_4, .inl (cI, 10, .inl (fun _ => (0 : Int32)))), (q_5, .inl (cI, 10, .inl (fun _ => (0 : Int32)))), (q_6, .inl (cI, 10, .inl pd)), (q_7, .inl (cQ, 10, .inr (.inr (.inr (.inr (fun i => if i < 10 then some (rr i) else none)))))), ((rr 0), .inl (cI, 10, .inl (Ma 0))), ((rr 1), .inl (cI, 10, .inl (Ma 1))), ((rr 2), .inl (cI, 10, .inl (Ma 2))), ((rr 3), .inl (cI, 10, .inl (Ma 3))), ((rr 4), .inl (cI, 10, .inl (Ma 4))), ((rr 5), .inl (cI, 10, .inl (Ma 5))), ((rr 6), .inl (cI, 10, .inl (Ma 6))), ((rr 7), .inl (cI, 10, .inl (Ma 7))), ((rr 8), .inl (cI, 10, .inl (Ma 8))), ((rr 9), .inl (cI, 10, .inl (Ma 9))), (q_8, .inl (cI, 10, .inl (fun _ => (0 : Int32))))] H → va_D A [(h1, .inr (1, [.ref q_1, .ref q_2, .ref q_3, .ref q_4, .ref q_5, .ref q_6, .ref q_7, .ref q_8, .int 0])), (q_1, .inl (cI, 10, .inl (fun _ => (0 : Int32)))), (q_2, .inl (cI, 10, .inl (fun _ => (0 : Int32)))), (q_3, .inl (cI, 10, .inl (fun _ => (0 : Int32)))), (q_4, .inl (cI, 10, .inl (fun _ => (0 : Int32)))), (q_5, .inl (cI, 10, .inl (fun _ => (0 : Int32)))), (q_6, .inl (cI, 10, .inl pd)), (q_7, .inl (cQ, 10, .inr (.inr (.inr (.inr (fun i => if i < 10 then some (rr i) else none)))))), ((rr 0), .inl (cI, 10, .inl (Ma 0))), ((rr 1), .inl (cI, 10, .inl (Ma 1))), ((rr 2), .inl (cI, 10, .inl (Ma 2))), ((rr 3), .inl (cI, 10, .inl (Ma 3))), ((rr 4), .inl (cI, 10, .inl (Ma 4))), ((rr 5), .inl (cI, 10, .inl (Ma 5))), ((rr 6), .inl (cI, 10, .inl (Ma 6))), ((rr 7), .inl (cI, 10, .inl (Ma 7))), ((rr 8), .inl (cI, 10, .inl (Ma 8))), ((rr 9), .inl (cI, 10, .inl (Ma 9))), (q_8, .inl (cI, 10, .inl (fun _ => (0 : Int32))))] → va_S A s.heap H locs → lv_has ls 3 [(0, .ref h1), (1, .int k)] → GW H locs 18 180 (F0 m 79 ls []) := by
    intro n_79
    induction n_79 with
    | zero => intro k pd Ma H locs ls hn_79; exact absurd hn_79 (Nat.not_lt_zero _)
    | succ n_79 ih_79 =>
      intro k pd Ma H locs ls hn_79 h0k vpd hpd hMa hP hD hS hl
      refine hIn _ _ _ _ _ ?_
      refine lv_iload_n hx hb dX1_init_79 rfl (lv_at hl 1 rfl) ?_
      refine lv_bipush (v := 10) hx hb dX1_init_80 (by decide) ?_
      refine lv_icmp_ge (tgt := 121) hx hb dX1_init_82 (by decide) (fun c_9 => ?_) (fun c_9 => ?_)
      · refine W.widen (k := 18) (n := 180) (Nat.le_of_ble_eq_true rfl) (Nat.le_of_ble_eq_true rfl) ?_
        exact fi_v (q_1, q_2, q_3, q_4, q_5, q_6, q_7, q_8, fun _ => (0 : Int32), fun _ => (0 : Int32), fun _ => (0 : Int32), fun _ => (0 : Int32), fun _ => (0 : Int32), pd, fun _ => (0 : Int32), rr, Ma) hx hb hr hlocks hK (hP.sub [0, 1, 2, 3, 4, 5, 6, 18, 7, 8, 9, 10, 11, 12, 13, 14, 15, 16, 17] rfl) (hD.sub [0, 1, 2, 3, 4, 5, 6, 18, 7, 8, 9, 10, 11, 12, 13, 14, 15, 16, 17] (by decide) rfl) hS ⟨(pf_X1_init_1 M0 n_79 k pd Ma eM0 hn_79 h0k vpd hpd hMa c_9), (pf_X1_init_2 M0 n_79 k pd Ma eM0 hn_79 h0k vpd hpd hMa c_9), (pf_X1_init_3 M0 n_79 k pd Ma eM0 hn_79 h0k vpd hpd hMa c_9), (pf_X1_init_4 M0 n_79 k pd Ma eM0 hn_79 h0k vpd hpd hMa c_9)⟩ dX1_init_121
      · refine lv_aload_n hx hb dX1_init_85 rfl (lv_at hl 0 rfl) ?_
        refine va_get (D := D) (ci := 1) (v := .ref q_6) (C := RX1) (T := TX1) (N := 9) hx hb hts iw_X1_init_1 hown hK hP 0 rfl rfl 5 (by decide) (hts _ wd_X1_init_10) (fun _ h9 => h9) rfl dX1_init_86 ?_
        refine lv_iload_n hx hb dX1_init_89 rfl (lv_at hl 1 rfl) ?_
        refine lv_iconst (v := (-1)) hx hb dX1_init_90 (by decide) ?_
        refine va_iast hx hb hK hP hD hS 6 0 rfl rfl (pf_X1_init_5 M0 n_79 k pd Ma eM0 hn_79 h0k vpd hpd hMa c_9) dX1_init_91 (fun H locs hP hD hS => ?_)
        have hP : va_P D vwCl [(h1, .inr (1, [.ref q_1, .ref q_2, .ref q_3, .ref q_4, .ref q_5, .ref q_6, .ref q_7, .ref q_8, .int 0])), (q_1, .inl (cI, 10, .inl (fun _ => (0 : Int32)))), (q_2, .inl (cI, 10, .inl (fun _ => (0 : Int32)))), (q_3, .inl (cI, 10, .inl (fun _ => (0 : Int32)))), (q_4, .inl (cI, 10, .inl (fun _ => (0 : Int32)))), (q_5, .inl (cI, 10, .inl (fun _ => (0 : Int32)))), (q_6, .inl (cI, 10, .inl (upd pd k.toNatClampNeg (-1)))), (q_7, .inl (cQ, 10, .inr (.inr (.inr (.inr (fun i => if i < 10 then some (rr i) else none)))))), ((rr 0), .inl (cI, 10, .inl (Ma 0))), ((rr 1), .inl (cI, 10, .inl (Ma 1))), ((rr 2), .inl (cI, 10, .inl (Ma 2))), ((rr 3), .inl (cI, 10, .inl (Ma 3))), ((rr 4), .inl (cI, 10, .inl (Ma 4))), ((rr 5), .inl (cI, 10, .inl (Ma 5))), ((rr 6), .inl (cI, 10, .inl (Ma 6))), ((rr 7), .inl (cI, 10, .inl (Ma 7))), ((rr 8), .inl (cI, 10, .inl (Ma 8))), ((rr 9), .inl (cI, 10, .inl (Ma 9))), (q_8, .inl (cI, 10, .inl (fun _ => (0 : Int32))))] H := hP
        have hD : va_D A [(h1, .inr (1, [.ref q_1, .ref q_2, .ref q_3, .ref q_4, .ref q_5, .ref q_6, .ref q_7, .ref q_8, .int 0])), (q_1, .inl (cI, 10, .inl (fun _ => (0 : Int32)))), (q_2, .inl (cI, 10, .inl (fun _ => (0 : Int32)))), (q_3, .inl (cI, 10, .inl (fun _ => (0 : Int32)))), (q_4, .inl (cI, 10, .inl (fun _ => (0 : Int32)))), (q_5, .inl (cI, 10, .inl (fun _ => (0 : Int32)))), (q_6, .inl (cI, 10, .inl (upd pd k.toNatClampNeg (-1)))), (q_7, .inl (cQ, 10, .inr (.inr (.inr (.inr (fun i => if i < 10 then some (rr i) else none)))))), ((rr 0), .inl (cI, 10, .inl (Ma 0))), ((rr 1), .inl (cI, 10, .inl (Ma 1))), ((rr 2), .inl (cI, 10, .inl (Ma 2))), ((rr 3), .inl (cI, 10, .inl (Ma 3))), ((rr 4), .inl (cI, 10, .inl (Ma 4))), ((rr 5), .inl (cI, 10, .inl (Ma 5))), ((rr 6), .inl (cI, 10, .inl (Ma 6))), ((rr 7), .inl (cI, 10, .inl (Ma 7))), ((rr 8), .inl (cI, 10, .inl (Ma 8))), ((rr 9), .inl (cI, 10, .inl (Ma 9))), (q_8, .inl (cI, 10, .inl (fun _ => (0 : Int32))))] := hD
        refine lv_iconst (v := 0) hx hb dX1_init_92 (by decide) ?_
        refine lv_istore_n (lv' := [(2, .int 0), (0, .ref h1), (1, .int k)]) hx hb dX1_init_93 rfl hl (by decide) rfl (fun ls hl => ?_)
        have lp_94 : ∀ (n : Nat) (j2 : Int32) (Mb : Nat → Nat → Int32) (H : Heap) (locs : List Loc) (ls : Array Slot), 10 - j2.toNatClampNeg < n → (0 ≤ j2) → ((∀ i j : Nat, i < k.toNatClampNeg → j < 10 → Mb i j = -1) ∧ ∀ q : Nat, q < j2.toNatClampNeg → Mb k.toNatClampNeg q = -1) → va_P D vwCl [(h1, .inr (1, [.ref q_1, .ref q_2, .ref q_3, .ref q_4, .ref q_5, .ref q_6, .ref q_7, .ref q_8, .int 0])), (q_1, .inl (cI, 10, .inl (fun _ => (0 : Int32)))), (q_2, .inl (cI, 10, .inl (fun _ => (0 : Int32)))), (q_3, .inl (cI, 10, .inl (fun _ => (0 : Int32)))), (q_4, .inl (cI, 10, .inl (fun _ => (0 : Int32)))), (q_5, .inl (cI, 10, .inl (fun _ => (0 : Int32)))), (q_6, .inl (cI, 10, .inl (upd pd k.toNatClampNeg (-1)))), (q_7, .inl (cQ, 10, .inr (.inr (.inr (.inr (fun i => if i < 10 then some (rr i) else none)))))), ((rr 0), .inl (cI, 10, .inl (Mb 0))), ((rr 1), .inl (cI, 10, .inl (Mb 1))), ((rr 2), .inl (cI, 10, .inl (Mb 2))), ((rr 3), .inl (cI, 10, .inl (Mb 3))), ((rr 4), .inl (cI, 10, .inl (Mb 4))), ((rr 5), .inl (cI, 10, .inl (Mb 5))), ((rr 6), .inl (cI, 10, .inl (Mb 6))), ((rr 7), .inl (cI, 10, .inl (Mb 7))), ((rr 8), .inl (cI, 10, .inl (Mb 8))), ((rr 9), .inl (cI, 10, .inl (Mb 9))), (q_8, .inl (cI, 10, .inl (fun _ => (0 : Int32))))] H → va_D A [(h1, .inr (1, [.ref q_1, .ref q_2, .ref q_3, .ref q_4, .ref q_5, .ref q_6, .ref q_7, .ref q_8, .int 0])), (q_1, .inl (cI, 10, .inl (fun _ => (0 : Int32)))), (q_2, .inl (cI, 10, .inl (fun _ => (0 : Int32)))), (q_3, .inl (cI, 10, .inl (fun _ => (0 : Int32)))), (q_4, .inl (cI, 10, .inl (fun _ => (0 : Int32)))), (q_5, .inl (cI, 10, .inl (fun _ => (0 : Int32)))), (q_6, .inl (cI, 10, .inl (upd pd k.toNatClampNeg (-1)))), (q_7, .inl (cQ, 10, .inr (.inr (.inr (.inr (fun i => if i < 10 then some (rr i) else none)))))), ((rr 0), .inl (cI, 10, .inl (Mb 0))), ((rr 1), .inl (cI, 10, .inl (Mb 1))), ((rr 2), .inl (cI, 10, .inl (Mb 2))), ((rr 3), .inl (cI, 10, .inl (Mb 3))), ((rr 4), .inl (cI, 10, .inl (Mb 4))), ((rr 5), .inl (cI, 10, .inl (Mb 5))), ((rr 6), .inl (cI, 10, .inl (Mb 6))), ((rr 7), .inl (cI, 10, .inl (Mb 7))), ((rr 8), .inl (cI, 10, .inl (Mb 8))), ((rr 9), .inl (cI, 10, .inl (Mb 9))), (q_8, .inl (cI, 10, .inl (fun _ => (0 : Int32))))] → va_S A s.heap H locs → lv_has ls 3 [(0, .ref h1), (1, .int k), (2, .int j2)] → GW H locs 18 180 (F0 m 94 ls []) := by
          intro n_94
          induction n_94 with
          | zero => intro j2 Mb H locs ls hn_94; exact absurd hn_94 (Nat.not_lt_zero _)
          | succ n_94 ih_94 =>
            intro j2 Mb H locs ls hn_94 h0j2 hMb hP hD hS hl
            refine hIn _ _ _ _ _ ?_
            refine lv_iload_n hx hb dX1_init_94 rfl (lv_at hl 2 rfl) ?_
            refine lv_bipush (v := 10) hx hb dX1_init_95 (by decide) ?_
            refine lv_icmp_ge (tgt := 115) hx hb dX1_init_97 (by decide) (fun c_10 => ?_) (fun c_10 => ?_)
            · obtain ⟨v_11, ev_11⟩ : ∃ y : Int32, y = k + 1 := ⟨_, rfl⟩
              refine lv_iinc (v := v_11) (lv' := [(1, .int v_11), (0, .ref h1), (2, .int j2)]) hx hb dX1_init_115 hl (k := 1) rfl (by rw [ev_11]; rfl) (by decide) rfl (fun ls hl => ?_)
              refine lv_goto (tgt := 79) hx hb dX1_init_118 (by decide) ?_
              exact hOut _ _ _ _ _ (ih_79 v_11 (upd pd k.toNatClampNeg (-1)) Mb _ _ _ (pf_X1_init_6 M0 n_79 k pd Ma n_94 j2 Mb v_11 eM0 hn_79 h0k vpd hpd hMa c_9 hn_94 h0j2 hMb c_10 ev_11) (pf_X1_init_7 M0 n_79 k pd Ma n_94 j2 Mb v_11 eM0 hn_79 h0k vpd hpd hMa c_9 hn_94 h0j2 hMb c_10 ev_11) (pf_X1_init_8 M0 n_79 k pd Ma n_94 j2 Mb v_11 eM0 hn_79 h0k vpd hpd hMa c_9 hn_94 h0j2 hMb c_10 ev_11) (pf_X1_init_9 M0 n_79 k pd Ma n_94 j2 Mb v_11 eM0 hn_79 h0k vpd hpd hMa c_9 hn_94 h0j2 hMb c_10 ev_11) (pf_X1_init_10 M0 n_79 k pd Ma n_94 j2 Mb v_11 eM0 hn_79 h0k vpd hpd hMa c_9 hn_94 h0j2 hMb c_10 ev_11) (hP.sub [0, 1, 2, 3, 4, 5, 6, 7, 8, 9, 10, 11, 12, 13, 14, 15, 16, 17, 18] rfl) (hD.sub [0, 1, 2, 3, 4, 5, 6, 7, 8, 9, 10, 11, 12, 13, 14, 15, 16, 17, 18] (by decide) rfl) hS (lv_sub hl [1, 0] rfl))
            · refine lv_aload_n hx hb dX1_init_100 rfl (lv_at hl 0 rfl) ?_
              refine va_get (D := D) (ci := 1) (v := .ref q_7) (C := RX1) (T := TX1) (N := 9) hx hb hts iw_X1_init_1 hown hK hP 0 rfl rfl 6 (by decide) (hts _ wd_X1_init_12) (fun _ h9 => h9) rfl dX1_init_101 ?_
              refine lv_iload_n hx hb dX1_init_104 rfl (lv_at hl 1 rfl) ?_
              refine va_aldA hx hb hK hP 7 1 rfl rfl (pf_X1_init_11 M0 n_79 k pd Ma n_94 j2 Mb eM0 hn_79 h0k vpd hpd hMa c_9 hn_94 h0j2 hMb c_10) dX1_init_105 ?_
              rw [row_ref (pf_X1_init_11 M0 n_79 k pd Ma n_94 j2 Mb eM0 hn_79 h0k vpd hpd hMa c_9 hn_94 h0j2 hMb c_10)]
              refine lv_iload_n hx hb dX1_init_106 rfl (lv_at hl 2 rfl) ?_
              refine lv_iconst (v := (-1)) hx hb dX1_init_107 (by decide) ?_
              refine va_iast hx hb hK hP hD hS (8 + k.toNatClampNeg) 0 (rows10 (P := fun i9 => ([(h1, .inr (1, [.ref q_1, .ref q_2, .ref q_3, .ref q_4, .ref q_5, .ref q_6, .ref q_7, .ref q_8, .int 0])), (q_1, .inl (cI, 10, .inl (fun _ => (0 : Int32)))), (q_2, .inl (cI, 10, .inl (fun _ => (0 : Int32)))), (q_3, .inl (cI, 10, .inl (fun _ => (0 : Int32)))), (q_4, .inl (cI, 10, .inl (fun _ => (0 : Int32)))), (q_5, .inl (cI, 10, .inl (fun _ => (0 : Int32)))), (q_6, .inl (cI, 10, .inl (upd pd k.toNatClampNeg (-1)))), (q_7, .inl (cQ, 10, .inr (.inr (.inr (.inr (fun i => if i < 10 then some (rr i) else none)))))), ((rr 0), .inl (cI, 10, .inl (Mb 0))), ((rr 1), .inl (cI, 10, .inl (Mb 1))), ((rr 2), .inl (cI, 10, .inl (Mb 2))), ((rr 3), .inl (cI, 10, .inl (Mb 3))), ((rr 4), .inl (cI, 10, .inl (Mb 4))), ((rr 5), .inl (cI, 10, .inl (Mb 5))), ((rr 6), .inl (cI, 10, .inl (Mb 6))), ((rr 7), .inl (cI, 10, .inl (Mb 7))), ((rr 8), .inl (cI, 10, .inl (Mb 8))), ((rr 9), .inl (cI, 10, .inl (Mb 9))), (q_8, .inl (cI, 10, .inl (fun _ => (0 : Int32))))] : va_W)[8 + i9]? = some (rr i9, .inl (cI, 10, .inl (Mb i9)))) rfl rfl rfl rfl rfl rfl rfl rfl rfl rfl _ (pf_X1_init_12 M0 n_79 k pd Ma n_94 j2 Mb eM0 hn_79 h0k vpd hpd hMa c_9 hn_94 h0j2 hMb c_10)) rfl (pf_X1_init_13 M0 n_79 k pd Ma n_94 j2 Mb eM0 hn_79 h0k vpd hpd hMa c_9 hn_94 h0j2 hMb c_10) dX1_init_108 (fun H locs hP hD hS => ?_)
              have hset9 := rows10 (P := fun i9 => ∀ X9 : Nat → Int32, ([(h1, .inr (1, [.ref q_1, .ref q_2, .ref q_3, .ref q_4, .ref q_5, .ref q_6, .ref q_7, .ref q_8, .int 0])), (q_1, .inl (cI, 10, .inl (fun _ => (0 : Int32)))), (q_2, .inl (cI, 10, .inl (fun _ => (0 : Int32)))), (q_3, .inl (cI, 10, .inl (fun _ => (0 : Int32)))), (q_4, .inl (cI, 10, .inl (fun _ => (0 : Int32)))), (q_5, .inl (cI, 10, .inl (fun _ => (0 : Int32)))), (q_6, .inl (cI, 10, .inl (upd pd k.toNatClampNeg (-1)))), (q_7, .inl (cQ, 10, .inr (.inr (.inr (.inr (fun i => if i < 10 then some (rr i) else none)))))), ((rr 0), .inl (cI, 10, .inl (Mb 0))), ((rr 1), .inl (cI, 10, .inl (Mb 1))), ((rr 2), .inl (cI, 10, .inl (Mb 2))), ((rr 3), .inl (cI, 10, .inl (Mb 3))), ((rr 4), .inl (cI, 10, .inl (Mb 4))), ((rr 5), .inl (cI, 10, .inl (Mb 5))), ((rr 6), .inl (cI, 10, .inl (Mb 6))), ((rr 7), .inl (cI, 10, .inl (Mb 7))), ((rr 8), .inl (cI, 10, .inl (Mb 8))), ((rr 9), .inl (cI, 10, .inl (Mb 9))), (q_8, .inl (cI, 10, .inl (fun _ => (0 : Int32))))] : va_W).set (8 + i9) (rr i9, .inl (cI, 10, .inl X9)) = [(h1, .inr (1, [.ref q_1, .ref q_2, .ref q_3, .ref q_4, .ref q_5, .ref q_6, .ref q_7, .ref q_8, .int 0])), (q_1, .inl (cI, 10, .inl (fun _ => (0 : Int32)))), (q_2, .inl (cI, 10, .inl (fun _ => (0 : Int32)))), (q_3, .inl (cI, 10, .inl (fun _ => (0 : Int32)))), (q_4, .inl (cI, 10, .inl (fun _ => (0 : Int32)))), (q_5, .inl (cI, 10, .inl (fun _ => (0 : Int32)))), (q_6, .inl (cI, 10, .inl (upd pd k.toNatClampNeg (-1)))), (q_7, .inl (cQ, 10, .inr (.inr (.inr (.inr (fun i => if i < 10 then some (rr i) else none)))))), ((rr 0), .inl (cI, 10, .inl (va_up Mb i9 X9 0))), ((rr 1), .inl (cI, 10, .inl (va_up Mb i9 X9 1))), ((rr 2), .inl (cI, 10, .inl (va_up Mb i9 X9 2))), ((rr 3), .inl (cI, 10, .inl (va_up Mb i9 X9 3))), ((rr 4), .inl (cI, 10, .inl (va_up Mb i9 X9 4))), ((rr 5), .inl (cI, 10, .inl (va_up Mb i9 X9 5))), ((rr 6), .inl (cI, 10, .inl (va_up Mb i9 X9 6))), ((rr 7), .inl (cI, 10, .inl (va_up Mb i9 X9 7))), ((rr 8), .inl (cI, 10, .inl (va_up Mb i9 X9 8))), ((rr 9), .inl (cI, 10, .inl (va_up Mb i9 X9 9))), (q_8, .inl (cI, 10, .inl (fun _ => (0 : Int32))))]) (fun _ => rfl) (fun _ => rfl) (fun _ => rfl) (fun _ => rfl) (fun _ => rfl) (fun _ => rfl) (fun _ => rfl) (fun _ => rfl) (fun _ => rfl) (fun _ => rfl) _ (pf_X1_init_12 M0 n_79 k pd Ma n_94 j2 Mb eM0 hn_79 h0k vpd hpd hMa c_9 hn_94 h0j2 hMb c_10) (upd (Mb k.toNatClampNeg) j2.toNatClampNeg (-1))
              rw [hset9] at hP hD
              obtain ⟨M_12, eM_12⟩ : ∃ z : Nat → Nat → Int32, z = va_up Mb k.toNatClampNeg (upd (Mb k.toNatClampNeg) j2.toNatClampNeg (-1)) := ⟨_, rfl⟩
              have hP : va_P D vwCl [(h1, .inr (1, [.ref q_1, .ref q_2, .ref q_3, .ref q_4, .ref q_5, .ref q_6, .ref q_7, .ref q_8, .int 0])), (q_1, .inl (cI, 10, .inl (fun _ => (0 : Int32)))), (q_2, .inl (cI, 10, .inl (fun _ => (0 : Int32)))), (q_3, .inl (cI, 10, .inl (fun _ => (0 : Int32)))), (q_4, .inl (cI, 10, .inl (fun _ => (0 : Int32)))), (q_5, .inl (cI, 10, .inl (fun _ => (0 : Int32)))), (q_6, .inl (cI, 10, .inl (upd pd k.toNatClampNeg (-1)))), (q_7, .inl (cQ, 10, .inr (.inr (.inr (.inr (fun i => if i < 10 then some (rr i) else none)))))), ((rr 0), .inl (cI, 10, .inl (M_12 0))), ((rr 1), .inl (cI, 10, .inl (M_12 1))), ((rr 2), .inl (cI, 10, .inl (M_12 2))), ((rr 3), .inl (cI, 10, .inl (M_12 3))), ((rr 4), .inl (cI, 10, .inl (M_12 4))), ((rr 5), .inl (cI, 10, .inl (M_12 5))), ((rr 6), .inl (cI, 10, .inl (M_12 6))), ((rr 7), .inl (cI, 10, .inl (M_12 7))), ((rr 8), .inl (cI, 10, .inl (M_12 8))), ((rr 9), .inl (cI, 10, .inl (M_12 9))), (q_8, .inl (cI, 10, .inl (fun _ => (0 : Int32))))] H := by rw [eM_12]; exact hP
              have hD : va_D A [(h1, .inr (1, [.ref q_1, .ref q_2, .ref q_3, .ref q_4, .ref q_5, .ref q_6, .ref q_7, .ref q_8, .int 0])), (q_1, .inl (cI, 10, .inl (fun _ => (0 : Int32)))), (q_2, .inl (cI, 10, .inl (fun _ => (0 : Int32)))), (q_3, .inl (cI, 10, .inl (fun _ => (0 : Int32)))), (q_4, .inl (cI, 10, .inl (fun _ => (0 : Int32)))), (q_5, .inl (cI, 10, .inl (fun _ => (0 : Int32)))), (q_6, .inl (cI, 10, .inl (upd pd k.toNatClampNeg (-1)))), (q_7, .inl (cQ, 10, .inr (.inr (.inr (.inr (fun i => if i < 10 then some (rr i) else none)))))), ((rr 0), .inl (cI, 10, .inl (M_12 0))), ((rr 1), .inl (cI, 10, .inl (M_12 1))), ((rr 2), .inl (cI, 10, .inl (M_12 2))), ((rr 3), .inl (cI, 10, .inl (M_12 3))), ((rr 4), .inl (cI, 10, .inl (M_12 4))), ((rr 5), .inl (cI, 10, .inl (M_12 5))), ((rr 6), .inl (cI, 10, .inl (M_12 6))), ((rr 7), .inl (cI, 10, .inl (M_12 7))), ((rr 8), .inl (cI, 10, .inl (M_12 8))), ((rr 9), .inl (cI, 10, .inl (M_12 9))), (q_8, .inl (cI, 10, .inl (fun _ => (0 : Int32))))] := by rw [eM_12]; exact hD
              obtain ⟨v_13, ev_13⟩ : ∃ y : Int32, y = j2 + 1 := ⟨_, rfl⟩
              refine lv_iinc (v := v_13) (lv' := [(2, .int v_13), (0, .ref h1), (1, .int k)]) hx hb dX1_init_109 hl (k := 2) rfl (by rw [ev_13]; rfl) (by decide) rfl (fun ls hl => ?_)
              refine lv_goto (tgt := 94) hx hb dX1_init_112 (by decide) ?_
              exact hOut _ _ _ _ _ (ih_94 v_13 M_12 _ _ _ (pf_X1_init_14 M0 n_79 k pd Ma n_94 j2 Mb M_12 v_13 eM0 hn_79 h0k vpd hpd hMa c_9 hn_94 h0j2 hMb c_10 eM_12 ev_13) (pf_X1_init_15 M0 n_79 k pd Ma n_94 j2 Mb M_12 v_13 eM0 hn_79 h0k vpd hpd hMa c_9 hn_94 h0j2 hMb c_10 eM_12 ev_13) (pf_X1_init_16 M0 n_79 k pd Ma n_94 j2 Mb M_12 v_13 eM0 hn_79 h0k vpd hpd hMa c_9 hn_94 h0j2 hMb c_10 eM_12 ev_13) (hP.sub [0, 1, 2, 3, 4, 5, 6, 7, 8, 9, 10, 11, 12, 13, 14, 15, 16, 17, 18] rfl) (hD.sub [0, 1, 2, 3, 4, 5, 6, 7, 8, 9, 10, 11, 12, 13, 14, 15, 16, 17, 18] (by decide) rfl) hS (lv_sub hl [1, 2, 0] rfl))
        exact hOut _ _ _ _ _ (lp_94 (10 - (0 : Int32).toNatClampNeg + 1) 0 Ma _ _ _ (Nat.lt_succ_self _) (pf_X1_init_17 M0 n_79 k pd Ma eM0 hn_79 h0k vpd hpd hMa c_9) (pf_X1_init_18 M0 n_79 k pd Ma eM0 hn_79 h0k vpd hpd hMa c_9) (hP.sub [0, 1, 2, 3, 4, 5, 6, 7, 8, 9, 10, 11, 12, 13, 14, 15, 16, 17, 18] rfl) (hD.sub [0, 1, 2, 3, 4, 5, 6, 7, 8, 9, 10, 11, 12, 13, 14, 15, 16, 17, 18] (by decide) rfl) hS (lv_sub hl [1, 2, 0] rfl))
  exact hOut _ _ _ _ _ (lp_79 (10 - (0 : Int32).toNatClampNeg + 1) 0 (fun _ => (0 : Int32)) M0 _ _ _ (Nat.lt_succ_self _) (pf_X1_init_19 M0 eM0) (pf_X1_init_20 M0 eM0) (pf_X1_init_21 M0 eM0) (pf_X1_init_22 M0 eM0) (hP.sub [0, 1, 2, 3, 4, 5, 6, 7, 8, 9, 10, 11, 12, 13, 14, 15, 16, 17, 18] rfl) (hD.sub [0, 1, 2, 3, 4, 5, 6, 7, 8, 9, 10, 11, 12, 13, 14, 15, 16, 17, 18] (by decide) rfl) hS (lv_sub hl [1, 0] rfl))
