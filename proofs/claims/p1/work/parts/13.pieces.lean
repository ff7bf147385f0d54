theorem iw_X1_has_1 : ∀ w ∈ wsX10, w ∈ wsX1_has := fun w h => (List.mem_cons_of_mem _ (List.mem_append_right _ h))
theorem wd_X1_has_1 : (.fieldLink RX1 38 "PourPlan$Pieces" "number" "I" : Cond) ∈ wsX1_has := List.mem_of_getElem? (i := 1) rfl
set_option maxHeartbeats 1000000 in
theorem pf_X1_has_1 (num : Int32) (a : Int32) (c_1 : a < 0) : (0 : Int32) = bHas a num := by
  grind [bHas]
set_option maxHeartbeats 1000000 in
theorem pf_X1_has_2 (num : Int32) (a : Int32) (c_1 : ¬ a < 0) (c_2 : num ≤ a) : (0 : Int32) = bHas a num := by
  grind [bHas]
set_option maxHeartbeats 1000000 in
theorem pf_X1_has_3 (num : Int32) (a : Int32) (c_1 : ¬ a < 0) (c_2 : ¬ num ≤ a) (c_3 : 10 ≤ a) : (0 : Int32) = bHas a num := by
  grind [bHas]
set_option maxHeartbeats 1000000 in
theorem pf_X1_has_4 (num : Int32) (a : Int32) (c_1 : ¬ a < 0) (c_2 : ¬ num ≤ a) (c_3 : ¬ 10 ≤ a) : (1 : Int32) = bHas a num := by
  grind [bHas]
set_option maxHeartbeats 4000000 in
set_option maxRecDepth 100000 in
theorem c_X1_has (l : Launch) (D : va_G) (cI : ClassId) (sz : Nat) (h1 : Nat) (k0 : Nat) (k1 : Nat) (k2 : Nat) (k3 : Nat) (k4 : Nat) (k5 : Nat) (k6 : Nat) (k7 : Nat) (num : Int32) (a : Int32) : CtI l yX1_has wsX1_has 0 0 0 0 [.ref h1, .int a] D [(cI, .int)] [(h1, .inr (1, [.ref k0, .ref k1, .ref k2, .ref k3, .ref k4, .ref k5, .ref k6, .ref k7, .int num]))] sz (fun (r : Int32) (u : Unit) => r = bHas a num) (fun (u : Unit) => [(h1, .inr (1, [.ref k0, .ref k1, .ref k2, .ref k3, .ref k4, .ref k5, .ref k6, .ref k7, .int num]))]) := by
  refine Met.ofW (cc := cX1_has) (maxL := 2) (ret := (some .boolean)) (by decide) rfl ?_
  intro p e s m args below meth c s₁ B hml hv
  obtain ⟨rfl, hsz, hP, hK, hD0, hN⟩ := hv
  have hx := B.exec
  have hb := B.bytes
  have hr := B.returns
  have hts := atoms_spec (ws := wsX1_has) B.pre
  have hown : s.vm.findClass RX1 = some m.cls := findClass_of_methodNamed B.named
  have hlocks := B.notSynchronized
  subst hsz
  have hD := hD0.self (sz := s.heap.size)
  generalize hAe : va_A [(h1, .inr (1, [.ref k0, .ref k1, .ref k2, .ref k3, .ref k4, .ref k5, .ref k6, .ref k7, .int num]))] s.heap.size = A at hD ⊢
  have hA : ∀ q : Nat, s.heap.size ≤ q → A q := fun q h => by rw [← hAe]; exact Or.inr h
  have hS : va_S A s.heap s.heap [] := va_S.rf
  have hl := lv_entry ([.ref h1, .int a]) (n := 2) (Nat.le_of_ble_eq_true rfl)
  rw [lg_entry_eq]
  generalize (lg_sl ([.ref h1, .int a]) ++ List.replicate (2 - (lg_sl ([.ref h1, .int a])).length) Slot.unset).toArray = ls at hl ⊢
  have hl : lv_has ls 2 [(0, .ref h1), (1, .int a)] := hl
  have hP0 := hP
  refine lv_iload_n hx hb dX1_has_0 rfl (lv_at hl 1 rfl) ?_
  refine lv_if_lt (tgt := 22) hx hb dX1_has_1 (by decide) (fun c_1 => ?_) (fun c_1 => ?_)
  · refine lv_iconst (v := 0) hx hb dX1_has_22 (by decide) ?_
    refine W.widen (k := 0) (n := 0) (Nat.le_of_ble_eq_true rfl) (Nat.le_of_ble_eq_true rfl) ?_
    exact fi_z () hx hb hr rfl hlocks hK (hP.sub [0] rfl) (hD.sub [0] (by decide) rfl) hS (pf_X1_has_1 num a c_1) dX1_has_23
  · refine lv_iload_n hx hb dX1_has_4 rfl (lv_at hl 1 rfl) ?_
    refine lv_aload_n hx hb dX1_has_5 rfl (lv_at hl 0 rfl) ?_
    refine va_get (D := D) (ci := 1) (v := .int num) (C := RX1) (T := TX1) (N := 9) hx hb hts iw_X1_has_1 hown hK hP 0 rfl rfl 8 (by decide) (hts _ wd_X1_has_1) (fun _ h9 => h9) rfl dX1_has_6 ?_
    refine lv_icmp_ge (tgt := 22) hx hb dX1_has_9 (by decide) (fun c_2 => ?_) (fun c_2 => ?_)
    · refine lv_iconst (v := 0) hx hb dX1_has_22 (by decide) ?_
      refine W.widen (k := 0) (n := 0) (Nat.le_of_ble_eq_true rfl) (Nat.le_of_ble_eq_true rfl) ?_
      exact fi_z () hx hb hr rfl hlocks hK (hP.sub [0] rfl) (hD.sub [0] (by decide) rfl) hS (pf_X1_has_2 num a c_1 c_2) dX1_has_23
    · refine lv_iload_n hx hb dX1_has_12 rfl (lv_at hl 1 rfl) ?_
      refine lv_bipush (v := 10) hx hb dX1_has_13 (by decide) ?_
      refine lv_icmp_ge (tgt := 22) hx hb dX1_has_15 (by decide) (fun c_3 => ?_) (fun c_3 => ?_)
      · refine lv_iconst (v := 0) hx hb dX1_has_22 (by decide) ?_
        refine W.widen (k := 0) (n := 0) (Nat.le_of_ble_eq_true rfl) (Nat.le_of_ble_eq_true rfl) ?_
        exact fi_z () hx hb hr rfl hlocks hK (hP.sub [0] rfl) (hD.sub [0] (by decide) rfl) hS (pf_X1_has_3 num a c_1 c_2 c_3) dX1_has_23
      · refine lv_iconst (v := 1) hx hb dX1_has_18 (by decide) ?_
        refine lv_goto (tgt := 23) hx hb dX1_has_19 (by decide) ?_
        refine W.widen (k := 0) (n := 0) (Nat.le_of_ble_eq_true rfl) (Nat.le_of_ble_eq_true rfl) ?_
        exact fi_z () hx hb hr rfl hlocks hK (hP.sub [0] rfl) (hD.sub [0] (by decide) rfl) hS (pf_X1_has_4 num a c_1 c_2 c_3) dX1_has_23

theorem iw_X1_add_1 : ∀ w ∈ wsX10, w ∈ wsX1_add := fun w h => (List.mem_cons_of_mem _ (List.mem_append_right _ h))
theorem wd_X1_add_1 : (.fieldLink RX1 38 "PourPlan$Pieces" "number" "I" : Cond) ∈ wsX1_add := List.mem_of_getElem? (i := 1) rfl
theorem wd_X1_add_2 : (.fieldLink RX1 9 "PourPlan$Pieces" "kinds" "[I" : Cond) ∈ wsX1_add := List.mem_of_getElem? (i := 2) rfl
theorem wd_X1_add_3 : (.fieldLink RX1 15 "PourPlan$Pieces" "floors" "[I" : Cond) ∈ wsX1_add := List.mem_of_getElem? (i := 3) rfl
theorem wd_X1_add_4 : (.fieldLink RX1 18 "PourPlan$Pieces" "volumes" "[I" : Cond) ∈ wsX1_add := List.mem_of_getElem? (i := 4) rfl
theorem wd_X1_add_5 : (.fieldLink RX1 21 "PourPlan$Pieces" "sizes" "[I" : Cond) ∈ wsX1_add := List.mem_of_getElem? (i := 5) rfl
theorem wd_X1_add_6 : (.fieldLink RX1 24 "PourPlan$Pieces" "faces" "[I" : Cond) ∈ wsX1_add := List.mem_of_getElem? (i := 6) rfl
set_option maxHeartbeats 1000000 in
theorem pf_X1_add_1 (num : Int32) (hp : 0 ≤ num) (c_1 : num < 10) : vp_in num 10 := by
  exact vi_in (M := 10) rfl (by grind) (by grind)
set_option maxHeartbeats 1000000 in
theorem pf_X1_add_2 (num : Int32) (hp : 0 ≤ num) (c_1 : num < 10) : vp_in num 10 := by
  exact vi_in (M := 10) rfl (by grind) (by grind)
set_option maxHeartbeats 1000000 in
theorem pf_X1_add_3 (num : Int32) (hp : 0 ≤ num) (c_1 : num < 10) : vp_in num 10 := by
  exact vi_in (M := 10) rfl (by grind) (by grind)
set_option maxHeartbeats 1000000 in
theorem pf_X1_add_4 (num : Int32) (hp : 0 ≤ num) (c_1 : num < 10) : vp_in num 10 := by
  exact vi_in (M := 10) rfl (by grind) (by grind)
set_option maxHeartbeats 1000000 in
theorem pf_X1_add_5 (num : Int32) (hp : 0 ≤ num) (c_1 : num < 10) : vp_in num 10 := by
  exact vi_in (M := 10) rfl (by grind) (by grind)
set_option maxHeartbeats 1000000 in
theorem pf_X1_add_6 (num : Int32) (v_2 : Int32) (hp : 0 ≤ num) (c_1 : num < 10) (ev_2 : v_2 = num + 1) : num = if 10 ≤ num then -4 else num := by
  grind
set_option maxHeartbeats 1000000 in
theorem pf_X1_add_7 (num : Int32) (hp : 0 ≤ num) (c_1 : ¬ num < 10) : (-4 : Int32) = if 10 ≤ num then -4 else num := by
  grind
set_option maxHeartbeats 4000000 in
set_option maxRecDepth 100000 in
theorem c_X1_add (l : Launch) (D : va_G) (cI : ClassId) (sz : Nat) (h1 : Nat) (k0 : Nat) (k1 : Nat) (k2 : Nat) (k3 : Nat) (k4 : Nat) (k5 : Nat) (k6 : Nat) (k7 : Nat) (num : Int32) (p0 : Nat → Int32) (p1 : Nat → Int32) (p2 : Nat → Int32) (p3 : Nat → Int32) (p4 : Nat → Int32) (xk : Int32) (xf : Int32) (xv : Int32) (xs : Int32) (xn : Int32) (hp : 0 ≤ num) : CtI l yX1_add wsX1_add 0 0 0 0 [.ref h1, .int xk, .int xf, .int xv, .int xs, .int xn] D [(cI, .int)] [(h1, .inr (1, [.ref k0, .ref k1, .ref k2, .ref k3, .ref k4, .ref k5, .ref k6, .ref k7, .int num])), (k0, .inl (cI, 10, .inl p0)), (k1, .inl (cI, 10, .inl p1)), (k2, .inl (cI, 10, .inl p2)), (k3, .inl (cI, 10, .inl p3)), (k4, .inl (cI, 10, .inl p4))] sz (fun (r : Int32) (u : Int32 × (Nat → Int32) × (Nat → Int32) × (Nat → Int32) × (Nat → Int32) × (Nat → Int32)) => r = if 10 ≤ num then -4 else num) (fun (u : Int32 × (Nat → Int32) × (Nat → Int32) × (Nat → Int32) × (Nat → Int32) × (Nat → Int32)) => [(h1, .inr (1, [.ref k0, .ref k1, .ref k2, .ref k3, .ref k4, .ref k5, .ref k6, .ref k7, .int u.1])), (k0, .inl (cI, 10, .inl u.2.1)), (k1, .inl (cI, 10, .inl u.2.2.1)), (k2, .inl (cI, 10, .inl u.2.2.2.1)), (k3, .inl (cI, 10, .inl u.2.2.2.2.1)), (k4, .inl (cI, 10, .inl u.2.2.2.2.2))]) := by
  refine Met.ofW (cc := cX1_add) (maxL := 7) (ret := (some .int)) (by decide) rfl ?_
  intro p e s m args below meth c s₁ B hml hv
  obtain ⟨rfl, hsz, hP, hK, hD0, hN⟩ := hv
  have hx := B.exec
  have hb := B.bytes
  have hr := B.returns
  have hts := atoms_spec (ws := wsX1_add) B.pre
  have hown : s.vm.findClass RX1 = some m.cls := findClass_of_methodNamed B.named
  have hlocks := B.notSynchronized
  subst hsz
  have hD := hD0.self (sz := s.heap.size)
  generalize hAe : va_A [(h1, .inr (1, [.ref k0, .ref k1, .ref k2, .ref k3, .ref k4, .ref k5, .ref k6, .ref k7, .int num])), (k0, .inl (cI, 10, .inl p0)), (k1, .inl (cI, 10, .inl p1)), (k2, .inl (cI, 10, .inl p2)), (k3, .inl (cI, 10, .inl p3)), (k4, .inl (cI, 10, .inl p4))] s.heap.size = A at hD ⊢
  have hA : ∀ q : Nat, s.heap.size ≤ q → A q := fun q h => by rw [← hAe]; exact Or.inr h
  have hS : va_S A s.heap s.heap [] := va_S.rf
  have hl := lv_entry ([.ref h1, .int xk, .int xf, .int xv, .int xs, .int xn]) (n := 7) (Nat.le_of_ble_eq_true rfl)
  rw [lg_entry_eq]
  generalize (lg_sl ([.ref h1, .int xk, .int xf, .int xv, .int xs, .int xn]) ++ List.replicate (7 - (lg_sl ([.ref h1, .int xk, .int xf, .int xv, .int xs, .int xn])).length) Slot.unset).toArray = ls at hl ⊢
  have hl : lv_has ls 7 [(0, .ref h1), (1, .int xk), (2, .int xf), (3, .int xv), (4, .int xs), (5, .int xn)] := hl
  have hP0 := hP
  refine lv_aload_n hx hb dX1_add_0 rfl (lv_at hl 0 rfl) ?_
  refine va_get (D := D) (ci := 1) (v := .int num) (C := RX1) (T := TX1) (N := 9) hx hb hts iw_X1_add_1 hown hK hP 0 rfl rfl 8 (by decide) (hts _ wd_X1_add_1) (fun _ h9 => h9) rfl dX1_add_1 ?_
  refine lv_istore (lv' := [(6, .int num), (0, .ref h1), (1, .int xk), (2, .int xf), (3, .int xv), (4, .int xs), (5, .int xn)]) hx hb dX1_add_4 hl (by decide) rfl (fun ls hl => ?_)
  refine lv_iload hx hb dX1_add_6 (lv_at hl 0 rfl) ?_
  refine lv_bipush (v := 10) hx hb dX1_add_8 (by decide) ?_
  refine lv_icmp_lt (tgt := 16) hx hb dX1_add_10 (by decide) (fun c_1 => ?_) (fun c_1 => ?_)
  · refine lv_aload_n hx hb dX1_add_16 rfl (lv_at hl 1 rfl) ?_
    refine va_get (D := D) (ci := 1) (v := .ref k0) (C := RX1) (T := TX1) (N := 9) hx hb hts iw_X1_add_1 hown hK hP 0 rfl rfl 0 (by decide) (hts _ wd_X1_add_2) (fun _ h9 => h9) rfl dX1_add_17 ?_
    refine lv_iload hx hb dX1_add_20 (lv_at hl 0 rfl) ?_
    refine lv_iload_n hx hb dX1_add_22 rfl (lv_at hl 2 rfl) ?_
    refine va_iast hx hb hK hP hD hS 1 0 rfl rfl (pf_X1_add_1 num hp c_1) dX1_add_23 (fun H locs hP hD hS => ?_)
    have hP : va_P D vwCl [(h1, .inr (1, [.ref k0, .ref k1, .ref k2, .ref k3, .ref k4, .ref k5, .ref k6, .ref k7, .int num])), (k0, .inl (cI, 10, .inl (upd p0 num.toNatClampNeg xk))), (k1, .inl (cI, 10, .inl p1)), (k2, .inl (cI, 10, .inl p2)), (k3, .inl (cI, 10, .inl p3)), (k4, .inl (cI, 10, .inl p4))] H := hP
    have hD : va_D A [(h1, .inr (1, [.ref k0, .ref k1, .ref k2, .ref k3, .ref k4, .ref k5, .ref k6, .ref k7, .int num])), (k0, .inl (cI, 10, .inl (upd p0 num.toNatClampNeg xk))), (k1, .inl (cI, 10, .inl p1)), (k2, .inl (cI, 10, .inl p2)), (k3, .inl (cI, 10, .inl p3)), (k4, .inl (cI, 10, .inl p4))] := hD
    refine lv_aload_n hx hb dX1_add_24 rfl (lv_at hl 1 rfl) ?_
    refine va_get (D := D) (ci := 1) (v := .ref k1) (C := RX1) (T := TX1) (N := 9) hx hb hts iw_X1_add_1 hown hK hP 0 rfl rfl 1 (by decide) (hts _ wd_X1_add_3) (fun _ h9 => h9) rfl dX1_add_25 ?_
    refine lv_iload hx hb dX1_add_28 (lv_at hl 0 rfl) ?_
    refine lv_iload_n hx hb dX1_add_30 rfl (lv_at hl 3 rfl) ?_
    refine va_iast hx hb hK hP hD hS 2 0 rfl rfl (pf_X1_add_2 num hp c_1) dX1_add_31 (fun H locs hP hD hS => ?_)
    have hP : va_P D vwCl [(h1, .inr (1, [.ref k0, .ref k1, .ref k2, .ref k3, .ref k4, .ref k5, .ref k6, .ref k7, .int num])), (k0, .inl (cI, 10, .inl (upd p0 num.toNatClampNeg xk))), (k1, .inl (cI, 10, .inl (upd p1 num.toNatClampNeg xf))), (k2, .inl (cI, 10, .inl p2)), (k3, .inl (cI, 10, .inl p3)), (k4, .inl (cI, 10, .inl p4))] H := hP
    have hD : va_D A [(h1, .inr (1, [.ref k0, .ref k1, .ref k2, .ref k3, .ref k4, .ref k5, .ref k6, .ref k7, .int num])), (k0, .inl (cI, 10, .inl (upd p0 num.toNatClampNeg xk))), (k1, .inl (cI, 10, .inl (upd p1 num.toNatClampNeg xf))), (k2, .inl (cI, 10, .inl p2)), (k3, .inl (cI, 10, .inl p3)), (k4, .inl (cI, 10, .inl p4))] := hD
    refine lv_aload_n hx hb dX1_add_32 rfl (lv_at hl 1 rfl) ?_
    refine va_get (D := D) (ci := 1) (v := .ref k2) (C := RX1) (T := TX1) (N := 9) hx hb hts iw_X1_add_1 hown hK hP 0 rfl rfl 2 (by decide) (hts _ wd_X1_add_4) (fun _ h9 => h9) rfl dX1_add_33 ?_
    refine lv_iload hx hb dX1_add_36 (lv_at hl 0 rfl) ?_
    refine lv_iload_n hx hb dX1_add_38 rfl (lv_at hl 4 rfl) ?_
    refine va_iast hx hb hK hP hD hS 3 0 rfl rfl (pf_X1_add_3 num hp c_1) dX1_add_39 (fun H locs hP hD hS => ?_)
    have hP : va_P D vwCl [(h1, .inr (1, [.ref k0, .ref k1, .ref k2, .ref k3, .ref k4, .ref k5, .ref k6, .ref k7, .int num])), (k0, .inl (cI, 10, .inl (upd p0 num.toNatClampNeg xk))), (k1, .inl (cI, 10, .inl (upd p1 num.toNatClampNeg xf))), (k2, .inl (cI, 10, .inl (upd p2 num.toNatClampNeg xv))), (k3, .inl (cI, 10, .inl p3)), (k4, .inl (cI, 10, .inl p4))] H := hP
    have hD : va_D A [(h1, .inr (1, [.ref k0, .ref k1, .ref k2, .ref k3, .ref k4, .ref k5, .ref k6, .ref k7, .int num])), (k0, .inl (cI, 10, .inl (upd p0 num.toNatClampNeg xk))), (k1, .inl (cI, 10, .inl (upd p1 num.toNatClampNeg xf))), (k2, .inl (cI, 10, .inl (upd p2 num.toNatClampNeg xv))), (k3, .inl (cI, 10, .inl p3)), (k4, .inl (cI, 10, .inl p4))] := hD
    refine lv_aload_n hx hb dX1_add_40 rfl (lv_at hl 1 rfl) ?_
    refine va_get (D := D) (ci := 1) (v := .ref k3) (C := RX1) (T := TX1) (N := 9) hx hb hts iw_X1_add_1 hown hK hP 0 rfl rfl 3 (by decide) (hts _ wd_X1_add_5) (fun _ h9 => h9) rfl dX1_add_41 ?_
    refine lv_iload hx hb dX1_add_44 (lv_at hl 0 rfl) ?_
    refine lv_iload hx hb dX1_add_46 (lv_at hl 5 rfl) ?_
    refine va_iast hx hb hK hP hD hS 4 0 rfl rfl (pf_X1_add_4 num hp c_1) dX1_add_48 (fun H locs hP hD hS => ?_)
    have hP : va_P D vwCl [(h1, .inr (1, [.ref k0, .ref k1, .ref k2, .ref k3, .ref k4, .ref k5, .ref k6, .ref k7, .int num])), (k0, .inl (cI, 10, .inl (upd p0 num.toNatClampNeg xk))), (k1, .inl (cI, 10, .inl (upd p1 num.toNatClampNeg xf))), (k2, .inl (cI, 10, .inl (upd p2 num.toNatClampNeg xv))), (k3, .inl (cI, 10, .inl (upd p3 num.toNatClampNeg xs))), (k4, .inl (cI, 10, .inl p4))] H := hP
    have hD : va_D A [(h1, .inr (1, [.ref k0, .ref k1, .ref k2, .ref k3, .ref k4, .ref k5, .ref k6, .ref k7, .int num])), (k0, .inl (cI, 10, .inl (upd p0 num.toNatClampNeg xk))), (k1, .inl (cI, 10, .inl (upd p1 num.toNatClampNeg xf))), (k2, .inl (cI, 10, .inl (upd p2 num.toNatClampNeg xv))), (k3, .inl (cI, 10, .inl (upd p3 num.toNatClampNeg xs))), (k4, .inl (cI, 10, .inl p4))] := hD
    refine lv_aload_n hx hb dX1_add_49 rfl (lv_at hl 1 rfl) ?_
    refine va_get (D := D) (ci := 1) (v := .ref k4) (C := RX1) (T := TX1) (N := 9) hx hb hts iw_X1_add_1 hown hK hP 0 rfl rfl 4 (by decide) (hts _ wd_X1_add_6) (fun _ h9 => h9) rfl dX1_add_50 ?_
    refine lv_iload hx hb dX1_add_53 (lv_at hl 0 rfl) ?_
    refine lv_iload hx hb dX1_add_55 (lv_at hl 6 rfl) ?_
    refine va_iast hx hb hK hP hD hS 5 0 rfl rfl (pf_X1_add_5 num hp c_1) dX1_add_57 (fun H locs hP hD hS => ?_)
    have hP : va_P D vwCl [(h1, .inr (1, [.ref k0, .ref k1, .ref k2, .ref k3, .ref k4, .ref k5, .ref k6, .ref k7, .int num])), (k0, .inl (cI, 10, .inl (upd p0 num.toNatClampNeg xk))), (k1, .inl (cI, 10, .inl (upd p1 num.toNatClampNeg xf))), (k2, .inl (cI, 10, .inl (upd p2 num.toNatClampNeg xv))), (k3, .inl (cI, 10, .inl (upd p3 num.toNatClampNeg xs))), (k4, .inl (cI, 10, .inl (upd p4 num.toNatClampNeg xn)))] H := hP
    have hD : va_D A [(h1, .inr (1, [.ref k0, .ref k1, .ref k2, .ref k3, .ref k4, .ref k5, .ref k6, .ref k7, .int num])), (k0, .inl (cI, 10, .inl (upd p0 num.toNatClampNeg xk))), (k1, .inl (cI, 10, .inl (upd p1 num.toNatClampNeg xf))), (k2, .inl (cI, 10, .inl (upd p2 num.toNatClampNeg xv))), (k3, .inl (cI, 10, .inl (upd p3 num.toNatClampNeg xs))), (k4, .inl (cI, 10, .inl (upd p4 num.toNatClampNeg xn)))] := hD
    refine lv_aload_n hx hb dX1_add_58 rfl (lv_at hl 1 rfl) ?_
    refine lv_dup hx hb dX1_add_59 rfl ?_
    refine va_get (D := D) (ci := 1) (v := .int num) (C := RX1) (T := TX1) (N := 9) hx hb hts iw_X1_add_1 hown hK hP 0 rfl rfl 8 (by decide) (hts _ wd_X1_add_1) (fun _ h9 => h9) rfl dX1_add_60 ?_
    refine lv_iconst (v := 1) hx hb dX1_add_63 (by decide) ?_
    refine lv_iadd hx hb dX1_add_64 ?_
    refine lv_topi (fun v_2 ev_2 => ?_)
    refine va_put (D := D) (ci := 1) (v := .int v_2) (ty := .int) (C := RX1) (T := TX1) (N := 9) hx hb hts iw_X1_add_1 tyX1 tyX1_ok nmX1 hown hK hP hD hS 0 rfl rfl 8 (by decide) (hts _ wd_X1_add_1) (fun _ h9 => h9) rfl (by decide +kernel) rfl rfl (Nat.le_of_ble_eq_true rfl) dX1_add_65 (fun H locs hP hD hS => ?_)
    have hP : va_P D vwCl [(h1, .inr (1, [.ref k0, .ref k1, .ref k2, .ref k3, .ref k4, .ref k5, .ref k6, .ref k7, .int v_2])), (k0, .inl (cI, 10, .inl (upd p0 num.toNatClampNeg xk))), (k1, .inl (cI, 10, .inl (upd p1 num.toNatClampNeg xf))), (k2, .inl (cI, 10, .inl (upd p2 num.toNatClampNeg xv))), (k3, .inl (cI, 10, .inl (upd p3 num.toNatClampNeg xs))), (k4, .inl (cI, 10, .inl (upd p4 num.toNatClampNeg xn)))] H := hP
    have hD : va_D A [(h1, .inr (1, [.ref k0, .ref k1, .ref k2, .ref k3, .ref k4, .ref k5, .ref k6, .ref k7, .int v_2])), (k0, .inl (cI, 10, .inl (upd p0 num.toNatClampNeg xk))), (k1, .inl (cI, 10, .inl (upd p1 num.toNatClampNeg xf))), (k2, .inl (cI, 10, .inl (upd p2 num.toNatClampNeg xv))), (k3, .inl (cI, 10, .inl (upd p3 num.toNatClampNeg xs))), (k4, .inl (cI, 10, .inl (upd p4 num.toNatClampNeg xn)))] := hD
    refine lv_iload hx hb dX1_add_68 (lv_at hl 0 rfl) ?_
    refine W.widen (k := 0) (n := 0) (Nat.le_of_ble_eq_true rfl) (Nat.le_of_ble_eq_true rfl) ?_
    exact fi_i (v_2, upd p0 num.toNatClampNeg xk, upd p1 num.toNatClampNeg xf, upd p2 num.toNatClampNeg xv, upd p3 num.toNatClampNeg xs, upd p4 num.toNatClampNeg xn) hx hb hr hlocks hK (hP.sub [0, 1, 2, 3, 4, 5] rfl) (hD.sub [0, 1, 2, 3, 4, 5] (by decide) rfl) hS (pf_X1_add_6 num v_2 hp c_1 ev_2) dX1_add_70
  · refine lv_bipush (v := (-4)) hx hb dX1_add_13 (by decide) ?_
    refine W.widen (k := 0) (n := 0) (Nat.le_of_ble_eq_true rfl) (Nat.le_of_ble_eq_true rfl) ?_
    exact fi_i (num, p0, p1, p2, p3, p4) hx hb hr hlocks hK (hP.sub [0, 1, 2, 3, 4, 5] rfl) (hD.sub [0, 1, 2, 3, 4, 5] (by decide) rfl) hS (pf_X1_add_7 num hp c_1) dX1_add_15

theorem iw_X1_unpourFrom_0_1 : ∀ w ∈ wsX10, w ∈ wsX1_unpourFrom := fun w h => (List.mem_cons_of_mem _ (List.mem_append_right _ h))
theorem wd_X1_unpourFrom_0_1 : (.fieldLink RX1 38 "PourPlan$Pieces" "number" "I" : Cond) ∈ wsX1_unpourFrom := List.mem_of_getElem? (i := 1) rfl
set_option maxHeartbeats 1000000 in
theorem pf_X1_unpourFrom_0_1   : (0 : Int32) = 0 := by
  grind
set_option maxHeartbeats 4000000 in
set_option maxRecDepth 100000 in
theorem c_X1_unpourFrom_0 (l : Launch) (D : va_G) (cI : ClassId) (sz : Nat) (h1 : Nat) (k0 : Nat) (k1 : Nat) (k2 : Nat) (k3 : Nat) (k4 : Nat) (k5 : Nat) (k6 : Nat) (k7 : Nat) (day : Int32) : CtI l yX1_unpourFrom wsX1_unpourFrom 0 0 0 0 [.ref h1, .int day] D [(cI, .int)] [(h1, .inr (1, [.ref k0, .ref k1, .ref k2, .ref k3, .ref k4, .ref k5, .ref k6, .ref k7, .int 0]))] sz (fun (r : Int32) (u : Unit) => r = 0) (fun (u : Unit) => [(h1, .inr (1, [.ref k0, .ref k1, .ref k2, .ref k3, .ref k4, .ref k5, .ref k6, .ref k7, .int 0]))]) := by
  refine Met.ofW (cc := cX1_unpourFrom) (maxL := 4) (ret := (some .int)) (by decide) rfl ?_
  intro p e s m args below meth c s₁ B hml hv
  obtain ⟨rfl, hsz, hP, hK, hD0, hN⟩ := hv
  have hx := B.exec
  have hb := B.bytes
  have hr := B.returns
  have hts := atoms_spec (ws := wsX1_unpourFrom) B.pre
  have hown : s.vm.findClass RX1 = some m.cls := findClass_of_methodNamed B.named
  have hlocks := B.notSynchronized
  subst hsz
  have hD := hD0.self (sz := s.heap.size)
  generalize hAe : va_A [(h1, .inr (1, [.ref k0, .ref k1, .ref k2, .ref k3, .ref k4, .ref k5, .ref k6, .ref k7, .int 0]))] s.heap.size = A at hD ⊢
  have hA : ∀ q : Nat, s.heap.size ≤ q → A q := fun q h => by rw [← hAe]; exact Or.inr h
  have hS : va_S A s.heap s.heap [] := va_S.rf
  have hl := lv_entry ([.ref h1, .int day]) (n := 4) (Nat.le_of_ble_eq_true rfl)
  rw [lg_entry_eq]
  generalize (lg_sl ([.ref h1, .int day]) ++ List.replicate (4 - (lg_sl ([.ref h1, .int day])).length) Slot.unset).toArray = ls at hl ⊢
  have hl : lv_has ls 4 [(0, .ref h1), (1, .int day)] := hl
  have hP0 := hP
  refine lv_iconst (v := 0) hx hb dX1_unpourFrom_0 (by decide) ?_
  refine lv_istore_n (lv' := [(2, .int 0), (0, .ref h1), (1, .int day)]) hx hb dX1_unpourFrom_1 rfl hl (by decide) rfl (fun ls hl => ?_)
  refine lv_iconst (v := 0) hx hb dX1_unpourFrom_2 (by decide) ?_
  refine lv_istore_n (lv' := [(3, .int 0), (2, .int 0), (0, .ref h1), (1, .int day)]) hx hb dX1_unpourFrom_3 rfl hl (by decide) rfl (fun ls hl => ?_)
  refine lv_iload_n hx hb dX1_unpourFrom_4 rfl (lv_at hl 0 rfl) ?_
  refine lv_aload_n hx hb dX1_unpourFrom_5 rfl (lv_at hl 2 rfl) ?_
  refine va_get (D := D) (ci := 1) (v := .int 0) (C := RX1) (T := TX1) (N := 9) hx hb hts iw_X1_unpourFrom_0_1 hown hK hP 0 rfl rfl 8 (by decide) (hts _ wd_X1_unpourFrom_0_1) (fun _ h9 => h9) rfl dX1_unpourFrom_6 ?_
  refine lv_icmp_ge (tgt := 38) hx hb dX1_unpourFrom_9 (by decide) (fun _ => ?_) (fun h => absurd (by decide) h)
  refine lv_iload_n hx hb dX1_unpourFrom_38 rfl (lv_at hl 1 rfl) ?_
  refine W.widen (k := 0) (n := 0) (Nat.le_of_ble_eq_true rfl) (Nat.le_of_ble_eq_true rfl) ?_
  exact fi_i () hx hb hr hlocks hK (hP.sub [0] rfl) (hD.sub [0] (by decide) rfl) hS (pf_X1_unpourFrom_0_1) dX1_unpourFrom_39

theorem iw_X1_howManyPoured_0_1 : ∀ w ∈ wsX10, w ∈ wsX1_howManyPoured := fun w h => (List.mem_cons_of_mem _ (List.mem_append_right _ h))
theorem wd_X1_howManyPoured_0_1 : (.fieldLink RX1 38 "PourPlan$Pieces" "number" "I" : Cond) ∈ wsX1_howManyPoured := List.mem_of_getElem? (i := 1) rfl
set_option maxHeartbeats 1000000 in
theorem pf_X1_howManyPoured_0_1   : (0 : Int32) = 0 := by
  grind
set_option maxHeartbeats 4000000 in
set_option maxRecDepth 100000 in
theorem c_X1_howManyPoured_0 (l : Launch) (D : va_G) (cI : ClassId) (sz : Nat) (h1 : Nat) (k0 : Nat) (k1 : Nat) (k2 : Nat) (k3 : Nat) (k4 : Nat) (k5 : Nat) (k6 : Nat) (k7 : Nat) : CtI l yX1_howManyPoured wsX1_howManyPoured 0 0 0 0 [.ref h1] D [(cI, .int)] [(h1, .inr (1, [.ref k0, .ref k1, .ref k2, .ref k3, .ref k4, .ref k5, .ref k6, .ref k7, .int 0]))] sz (fun (r : Int32) (u : Unit) => r = 0) (fun (u : Unit) => [(h1, .inr (1, [.ref k0, .ref k1, .ref k2, .ref k3, .ref k4, .ref k5, .ref k6, .ref k7, .int 0]))]) := by
  refine Met.ofW (cc := cX1_howManyPoured) (maxL := 3) (ret := (some .int)) (by decide) rfl ?_
  intro p e s m args below meth c s₁ B hml hv
  obtain ⟨rfl, hsz, hP, hK, hD0, hN⟩ := hv
  have hx := B.exec
  have hb := B.bytes
  have hr := B.returns
  have hts := atoms_spec (ws := wsX1_howManyPoured) B.pre
  have hown : s.vm.findClass RX1 = some m.cls := findClass_of_methodNamed B.named
  have hlocks := B.notSynchronized
  subst hsz
  have hD := hD0.self (sz := s.heap.size)
  generalize hAe : va_A [(h1, .inr (1, [.ref k0, .ref k1, .ref k2, .ref k3, .ref k4, .ref k5, .ref k6, .ref k7, .int 0]))] s.heap.size = A at hD ⊢
  have hA : ∀ q : Nat, s.heap.size ≤ q → A q := fun q h => by rw [← hAe]; exact Or.inr h
  have hS : va_S A s.heap s.heap [] := va_S.rf
  have hl := lv_entry ([.ref h1]) (n := 3) (Nat.le_of_ble_eq_true rfl)
  rw [lg_entry_eq]
  generalize (lg_sl ([.ref h1]) ++ List.replicate (3 - (lg_sl ([.ref h1])).length) Slot.unset).toArray = ls at hl ⊢
  have hl : lv_has ls 3 [(0, .ref h1)] := hl
  have hP0 := hP
  refine lv_iconst (v := 0) hx hb dX1_howManyPoured_0 (by decide) ?_
  refine lv_istore_n (lv' := [(1, .int 0), (0, .ref h1)]) hx hb dX1_howManyPoured_1 rfl hl (by decide) rfl (fun ls hl => ?_)
  refine lv_iconst (v := 0) hx hb dX1_howManyPoured_2 (by decide) ?_
  refine lv_istore_n (lv' := [(2, .int 0), (1, .int 0), (0, .ref h1)]) hx hb dX1_howManyPoured_3 rfl hl (by decide) rfl (fun ls hl => ?_)
  refine lv_iload_n hx hb dX1_howManyPoured_4 rfl (lv_at hl 0 rfl) ?_
  refine lv_aload_n hx hb dX1_howManyPoured_5 rfl (lv_at hl 2 rfl) ?_
  refine va_get (D := D) (ci := 1) (v := .int 0) (C := RX1) (T := TX1) (N := 9) hx hb hts iw_X1_howManyPoured_0_1 hown hK hP 0 rfl rfl 8 (by decide) (hts _ wd_X1_howManyPoured_0_1) (fun _ h9 => h9) rfl dX1_howManyPoured_6 ?_
  refine lv_icmp_ge (tgt := 31) hx hb dX1_howManyPoured_9 (by decide) (fun _ => ?_) (fun h => absurd (by decide) h)
  refine lv_iload_n hx hb dX1_howManyPoured_31 rfl (lv_at hl 1 rfl) ?_
  refine W.widen (k := 0) (n := 0) (Nat.le_of_ble_eq_true rfl) (Nat.le_of_ble_eq_true rfl) ?_
  exact fi_i () hx hb hr hlocks hK (hP.sub [0] rfl) (hD.sub [0] (by decide) rfl) hS (pf_X1_howManyPoured_0_1) dX1_howManyPoured_32

theorem iw_X2_init_2 : ∀ w ∈ wsX20, w ∈ wsX2_init := fun w h => (List.mem_cons_of_mem _ (List.mem_append_right _ h))
theorem wd_X2_init_1 : (.methodLink RX2 3 objectInit : Cond) ∈ wsX2_init := List.mem_of_getElem? (i := 1) rfl
theorem wd_X2_init_2 : (.instanceMethod objectInit : Cond) ∈ wsX2_init := List.mem_of_getElem? (i := 2) rfl
theorem wd_X2_init_3 : (.code objectInit ⟨#[0xb1]⟩ 1 none : Cond) ∈ wsX2_init := List.mem_of_getElem? (i := 3) rfl
theorem wd_X2_init_4 : (.arrayClass .int : Cond) ∈ wsX2_init := List.mem_of_getElem? (i := 4) rfl
theorem wd_X2_init_5 : (.fieldLink RX2 9 "PourPlan$Sequence" "row" "[I" : Cond) ∈ wsX2_init := List.mem_of_getElem? (i := 5) rfl
theorem wd_X2_init_6 : (.fieldLink RX2 15 "PourPlan$Sequence" "length" "I" : Cond) ∈ wsX2_init := List.mem_of_getElem? (i := 6) rfl
set_option maxHeartbeats 4000000 in
set_option maxRecDepth 100000 in
theorem c_X2_init (l : Launch) (D : va_G) (cI : ClassId) (sz : Nat) (h2 : Nat) : CtV l yX2_init wsX2_init 1 12 1 10 [.ref h2] D [(cI, .int)] [(h2, .inr (2, [.null, .int 0]))] sz (fun (u : Nat × (Nat → Int32)) => True) (fun (u : Nat × (Nat → Int32)) => [(h2, .inr (2, [.ref u.1, .int 0])), (u.1, .inl (cI, 10, .inl u.2))]) := by
  refine Met.ofW (cc := cX2_init) (maxL := 1) (ret := none) (by decide) rfl ?_
  intro p e s m args below meth c s₁ B hml hv
  obtain ⟨rfl, hsz, hP, hK, hD0, hN⟩ := hv
  have hx := B.exec
  have hb := B.bytes
  have hr := B.returns
  have hts := atoms_spec (ws := wsX2_init) B.pre
  have hown : s.vm.findClass RX2 = some m.cls := findClass_of_methodNamed B.named
  have hlocks := B.notSynchronized
  have hin : meth.name = "<init>" := (name_of_methodNamed B.named B.method).1
  subst hsz
  have hD := hD0.self (sz := s.heap.size)
  generalize hAe : va_A [(h2, .inr (2, [.null, .int 0]))] s.heap.size = A at hD ⊢
  have hA : ∀ q : Nat, s.heap.size ≤ q → A q := fun q h => by rw [← hAe]; exact Or.inr h
  have hS : va_S A s.heap s.heap [] := va_S.rf
  have hl := lv_entry ([.ref h2]) (n := 1) (Nat.le_of_ble_eq_true rfl)
  rw [lg_entry_eq]
  generalize (lg_sl ([.ref h2]) ++ List.replicate (1 - (lg_sl ([.ref h2])).length) Slot.unset).toArray = ls at hl ⊢
  have hl : lv_has ls 1 [(0, .ref h2)] := hl
  have hP0 := hP
  refine lv_aload_n hx hb dX2_init_0 rfl (lv_at hl 0 rfl) ?_
  refine W.objInit hx hb hown (hts _ wd_X2_init_1) (hts _ wd_X2_init_2) (hts _ wd_X2_init_3) rfl (by rw [hml]; exact hl.1) rfl dX2_init_1 (Nat.le_of_ble_eq_true rfl) (Nat.le_of_ble_eq_true rfl) ?_
  refine W.eq (g2 := F0 m 4 ls []) rfl ?_
  refine lv_aload_n hx hb dX2_init_4 rfl (lv_at hl 0 rfl) ?_
  refine lv_bipush (v := 10) hx hb dX2_init_5 (by decide) ?_
  refine va_newa (atype := .int) (a0 := (10, .inl (fun _ => (0 : Int32)))) (N' := 10) hx hb (hts _ wd_X2_init_4) rfl hK hP hD hS hA (fun _ => rfl) (by decide) (by decide) (by decide) (Nat.le_of_ble_eq_true rfl) (Nat.le_of_ble_eq_true rfl) dX2_init_7 (fun q_1 cA H hK hP hD hS => ?_)
  have ecA := (cA_is (t0 := 0) (t1 := 1) hK rfl rfl).symm
  subst ecA
  have hK := hK.sub (tys' := [(cI, .int)]) [0] rfl
  have hP : va_P D vwCl [(h2, .inr (2, [.null, .int 0])), (q_1, .inl (cI, 10, .inl (fun _ => (0 : Int32))))] H := hP
  have hD : va_D A [(h2, .inr (2, [.null, .int 0])), (q_1, .inl (cI, 10, .inl (fun _ => (0 : Int32))))] := hD
  refine W.widen (k := 1) (n := 10) (Nat.le_of_ble_eq_true rfl) (Nat.le_of_ble_eq_true rfl) ?_
  refine va_putF (D := D) (ci := 2) (v := .ref q_1) (ty := .array .int) (C := RX2) (T := TX2) (N := 2) hx hb hts iw_X2_init_2 tyX2 tyX2_ok nmX2 hown hK hP hD hS 0 rfl rfl 0 (by decide) (hts _ wd_X2_init_5) (fun _ h9 => h9) rfl hin rfl (by decide +kernel) rfl rfl (Nat.le_of_ble_eq_true rfl) dX2_init_9 (fun H locs hP hD hS => ?_)
  have hP : va_P D vwCl [(h2, .inr (2, [.ref q_1, .int 0])), (q_1, .inl (cI, 10, .inl (fun _ => (0 : Int32))))] H := hP
  have hD : va_D A [(h2, .inr (2, [.ref q_1, .int 0])), (q_1, .inl (cI, 10, .inl (fun _ => (0 : Int32))))] := hD
  refine lv_aload_n hx hb dX2_init_12 rfl (lv_at hl 0 rfl) ?_
  refine lv_iconst (v := 0) hx hb dX2_init_13 (by decide) ?_
  refine va_put (D := D) (ci := 2) (v := .int 0) (ty := .int) (C := RX2) (T := TX2) (N := 2) hx hb hts iw_X2_init_2 tyX2 tyX2_ok nmX2 hown hK hP hD hS 0 rfl rfl 1 (by decide) (hts _ wd_X2_init_6) (fun _ h9 => h9) rfl (by decide +kernel) rfl rfl (Nat.le_of_ble_eq_true rfl) dX2_init_14 (fun H locs hP hD hS => ?_)
  have hP : va_P D vwCl [(h2, .inr (2, [.ref q_1, .int 0])), (q_1, .inl (cI, 10, .inl (fun _ => (0 : Int32))))] H := hP
  have hD : va_D A [(h2, .inr (2, [.ref q_1, .int 0])), (q_1, .inl (cI, 10, .inl (fun _ => (0 : Int32))))] := hD
  refine W.widen (k := 1) (n := 10) (Nat.le_of_ble_eq_true rfl) (Nat.le_of_ble_eq_true rfl) ?_
  exact fi_v (q_1, fun _ => (0 : Int32)) hx hb hr hlocks hK (hP.sub [0, 1] rfl) (hD.sub [0, 1] (by decide) rfl) hS trivial dX2_init_17

theorem iw_X2_append_2 : ∀ w ∈ wsX20, w ∈ wsX2_append := fun w h => (List.mem_cons_of_mem _ (List.mem_append_right _ h))
theorem wd_X2_append_1 : (.fieldLink RX2 15 "PourPlan$Sequence" "length" "I" : Cond) ∈ wsX2_append := List.mem_of_getElem? (i := 1) rfl
theorem wd_X2_append_2 : (.fieldLink RX2 9 "PourPlan$Sequence" "row" "[I" : Cond) ∈ wsX2_append := List.mem_of_getElem? (i := 2) rfl
set_option maxHeartbeats 1000000 in
theorem pf_X2_append_1 (ln : Int32) (hp : 0 ≤ ln) (c_1 : ¬ 10 ≤ ln) : vp_in ln 10 := by
  exact vi_in (M := 10) rfl (by grind) (by grind)
set_option maxHeartbeats 4000000 in
set_option maxRecDepth 100000 in
theorem c_X2_append (l : Launch) (D : va_G) (cI : ClassId) (sz : Nat) (h2 : Nat) (s0 : Nat) (ln : Int32) (f : Nat → Int32) (a : Int32) (hp : 0 ≤ ln) : CtV l yX2_append wsX2_append 0 0 0 0 [.ref h2, .int a] D [(cI, .int)] [(h2, .inr (2, [.ref s0, .int ln])), (s0, .inl (cI, 10, .inl f))] sz (fun (u : Int32 × (Nat → Int32)) => True) (fun (u : Int32 × (Nat → Int32)) => [(h2, .inr (2, [.ref s0, .int u.1])), (s0, .inl (cI, 10, .inl u.2))]) := by
  refine Met.ofW (cc := cX2_append) (maxL := 2) (ret := none) (by decide) rfl ?_
  intro p e s m args below meth c s₁ B hml hv
  obtain ⟨rfl, hsz, hP, hK, hD0, hN⟩ := hv
  have hx := B.exec
  have hb := B.bytes
  have hr := B.returns
  have hts := atoms_spec (ws := wsX2_append) B.pre
  have hown : s.vm.findClass RX2 = some m.cls := findClass_of_methodNamed B.named
  have hlocks := B.notSynchronized
  subst hsz
  have hD := hD0.self (sz := s.heap.size)
  generalize hAe : va_A [(h2, .inr (2, [.ref s0, .int ln])), (s0, .inl (cI, 10, .inl f))] s.heap.size = A at hD ⊢
  have hA : ∀ q : Nat, s.heap.size ≤ q → A q := fun q h => by rw [← hAe]; exact Or.inr h
  have hS : va_S A s.heap s.heap [] := va_S.rf
  have hl := lv_entry ([.ref h2, .int a]) (n := 2) (Nat.le_of_ble_eq_true rfl)
  rw [lg_entry_eq]
  generalize (lg_sl ([.ref h2, .int a]) ++ List.replicate (2 - (lg_sl ([.ref h2, .int a])).length) Slot.unset).toArray = ls at hl ⊢
  have hl : lv_has ls 2 [(0, .ref h2), (1, .int a)] := hl
  have hP0 := hP
  refine lv_aload_n hx hb dX2_append_0 rfl (lv_at hl 0 rfl) ?_
  refine va_get (D := D) (ci := 2) (v := .int ln) (C := RX2) (T := TX2) (N := 2) hx hb hts iw_X2_append_2 hown hK hP 0 rfl rfl 1 (by decide) (hts _ wd_X2_append_1) (fun _ h9 => h9) rfl dX2_append_1 ?_
  refine lv_bipush (v := 10) hx hb dX2_append_4 (by decide) ?_
  refine lv_icmp_ge (tgt := 29) hx hb dX2_append_6 (by decide) (fun c_1 => ?_) (fun c_1 => ?_)
  · refine W.widen (k := 0) (n := 0) (Nat.le_of_ble_eq_true rfl) (Nat.le_of_ble_eq_true rfl) ?_
    exact fi_v (ln, f) hx hb hr hlocks hK (hP.sub [0, 1] rfl) (hD.sub [0, 1] (by decide) rfl) hS trivial dX2_append_29
  · refine lv_aload_n hx hb dX2_append_9 rfl (lv_at hl 0 rfl) ?_
    refine va_get (D := D) (ci := 2) (v := .ref s0) (C := RX2) (T := TX2) (N := 2) hx hb hts iw_X2_append_2 hown hK hP 0 rfl rfl 0 (by decide) (hts _ wd_X2_append_2) (fun _ h9 => h9) rfl dX2_append_10 ?_
    refine lv_aload_n hx hb dX2_append_13 rfl (lv_at hl 0 rfl) ?_
    refine va_get (D := D) (ci := 2) (v := .int ln) (C := RX2) (T := TX2) (N := 2) hx hb hts iw_X2_append_2 hown hK hP 0 rfl rfl 1 (by decide) (hts _ wd_X2_append_1) (fun _ h9 => h9) rfl dX2_append_14 ?_
    refine lv_iload_n hx hb dX2_append_17 rfl (lv_at hl 1 rfl) ?_
    refine va_iast hx hb hK hP hD hS 1 0 rfl rfl (pf_X2_append_1 ln hp c_1) dX2_append_18 (fun H locs hP hD hS => ?_)
    have hP : va_P D vwCl [(h2, .inr (2, [.ref s0, .int ln])), (s0, .inl (cI, 10, .inl (upd f ln.toNatClampNeg a)))] H := hP
    have hD : va_D A [(h2, .inr (2, [.ref s0, .int ln])), (s0, .inl (cI, 10, .inl (upd f ln.toNatClampNeg a)))] := hD
    refine lv_aload_n hx hb dX2_append_19 rfl (lv_at hl 0 rfl) ?_
    refine lv_dup hx hb dX2_append_20 rfl ?_
    refine va_get (D := D) (ci := 2) (v := .int ln) (C := RX2) (T := TX2) (N := 2) hx hb hts iw_X2_append_2 hown hK hP 0 rfl rfl 1 (by decide) (hts _ wd_X2_append_1) (fun _ h9 => h9) rfl dX2_append_21 ?_
    refine lv_iconst (v := 1) hx hb dX2_append_24 (by decide) ?_
    refine lv_iadd hx hb dX2_append_25 ?_
    refine lv_topi (fun v_2 ev_2 => ?_)
    refine va_put (D := D) (ci := 2) (v := .int v_2) (ty := .int) (C := RX2) (T := TX2) (N := 2) hx hb hts iw_X2_append_2 tyX2 tyX2_ok nmX2 hown hK hP hD hS 0 rfl rfl 1 (by decide) (hts _ wd_X2_append_1) (fun _ h9 => h9) rfl (by decide +kernel) rfl rfl (Nat.le_of_ble_eq_true rfl) dX2_append_26 (fun H locs hP hD hS => ?_)
    have hP : va_P D vwCl [(h2, .inr (2, [.ref s0, .int v_2])), (s0, .inl (cI, 10, .inl (upd f ln.toNatClampNeg a)))] H := hP
    have hD : va_D A [(h2, .inr (2, [.ref s0, .int v_2])), (s0, .inl (cI, 10, .inl (upd f ln.toNatClampNeg a)))] := hD
    refine W.widen (k := 0) (n := 0) (Nat.le_of_ble_eq_true rfl) (Nat.le_of_ble_eq_true rfl) ?_
    exact fi_v (v_2, upd f ln.toNatClampNeg a) hx hb hr hlocks hK (hP.sub [0, 1] rfl) (hD.sub [0, 1] (by decide) rfl) hS trivial dX2_append_29

theorem iw_X1_init_1 : ∀ w ∈ wsX10, w ∈ wsX1_init := fun w h => (List.mem_cons_of_mem _ (List.mem_append_right _ h))
theorem wd_X1_init_1 : (.methodLink RX1 3 objectInit : Cond) ∈ wsX1_init := List.mem_of_getElem? (i := 1) rfl
theorem wd_X1_init_2 : (.instanceMethod objectInit : Cond) ∈ wsX1_init := List.mem_of_getElem? (i := 2) rfl
theorem wd_X1_init_3 : (.code objectInit ⟨#[0xb1]⟩ 1 none : Cond) ∈ wsX1_init := List.mem_of_getElem? (i := 3) rfl
theorem wd_X1_init_4 : (.arrayClass .int : Cond) ∈ wsX1_init := List.mem_of_getElem? (i := 4) rfl
theorem wd_X1_init_5 : (.fieldLink RX1 9 "PourPlan$Pieces" "kinds" "[I" : Cond) ∈ wsX1_init := List.mem_of_getElem? (i := 5) rfl
theorem wd_X1_init_6 : (.fieldLink RX1 15 "PourPlan$Pieces" "floors" "[I" : Cond) ∈ wsX1_init := List.mem_of_getElem? (i := 6) rfl
theorem wd_X1_init_7 : (.fieldLink RX1 18 "PourPlan$Pieces" "volumes" "[I" : Cond) ∈ wsX1_init := List.mem_of_getElem? (i := 7) rfl
theorem wd_X1_init_8 : (.fieldLink RX1 21 "PourPlan$Pieces" "sizes" "[I" : Cond) ∈ wsX1_init := List.mem_of_getElem? (i := 8) rfl
theorem wd_X1_init_9 : (.fieldLink RX1 24 "PourPlan$Pieces" "faces" "[I" : Cond) ∈ wsX1_init := List.mem_of_getElem? (i := 9) rfl
theorem wd_X1_init_10 : (.fieldLink RX1 27 "PourPlan$Pieces" "days" "[I" : Cond) ∈ wsX1_init := List.mem_of_getElem? (i := 10) rfl
theorem wd_X1_init_11 : (.classLink RX1 30 "[[I" : Cond) ∈ wsX1_init := List.mem_of_getElem? (i := 11) rfl
theorem wd_X1_init_12 : (.fieldLink RX1 32 "PourPlan$Pieces" "lead" "[[I" : Cond) ∈ wsX1_init := List.mem_of_getElem? (i := 12) rfl
theorem wd_X1_init_13 : (.fieldLink RX1 35 "PourPlan$Pieces" "ways" "[I" : Cond) ∈ wsX1_init := List.mem_of_getElem? (i := 13) rfl
theorem wd_X1_init_14 : (.fieldLink RX1 38 "PourPlan$Pieces" "number" "I" : Cond) ∈ wsX1_init := List.mem_of_getElem? (i := 14) rfl
set_option maxHeartbeats 1000000 in
theorem pf_X1_init_1 (cI : ClassId) (rr : Nat → Nat) (LL : List Nat) (fp : Nat → va_E) (n_79 : Nat) (i : Nat) (k : Int32) (fp1 : Nat → va_E) (hm : ∀ i, i < 10 → rr i ∈ LL) (hf : ∀ a ∈ LL, ∃ g, fp a = .inl (cI, 10, .inl g)) (hn_79 : 10 - i < n_79 + 1) (ek : k = nI i) (hk : i ≤ 10) (hf1 : ∀ a ∈ LL, ∃ g, fp1 a = .inl (cI, 10, .inl g)) (c_9 : ¬ 10 ≤ k) : vp_in k 10 := by
  exact lp_in (N := 10) ek hk (by omega) (by assumption)
set_option maxHeartbeats 1000000 in
theorem pf_X1_init_2 (cI : ClassId) (rr : Nat → Nat) (LL : List Nat) (fp : Nat → va_E) (n_79 : Nat) (i : Nat) (k : Int32) (fp1 : Nat → va_E) (n_94 : Nat) (j : Nat) (k2 : Int32) (fp2 : Nat → va_E) (v_11 : Int32) (hm : ∀ i, i < 10 → rr i ∈ LL) (hf : ∀ a ∈ LL, ∃ g, fp a = .inl (cI, 10, .inl g)) (hn_79 : 10 - i < n_79 + 1) (ek : k = nI i) (hk : i ≤ 10) (hf1 : ∀ a ∈ LL, ∃ g, fp1 a = .inl (cI, 10, .inl g)) (c_9 : ¬ 10 ≤ k) (hn_94 : 10 - j < n_94 + 1) (ek2 : k2 = nI j) (hk2 : j ≤ 10) (hf2 : ∀ a ∈ LL, ∃ g, fp2 a = .inl (cI, 10, .inl g)) (c_10 : 10 ≤ k2) (ev_11 : v_11 = k + 1) : 10 - (i + 1) < n_79 := by
  have := lp_lt (N := 10) ek hk (by omega) (by assumption)
  omega
set_option maxHeartbeats 1000000 in
theorem pf_X1_init_3 (cI : ClassId) (rr : Nat → Nat) (LL : List Nat) (fp : Nat → va_E) (n_79 : Nat) (i : Nat) (k : Int32) (fp1 : Nat → va_E) (n_94 : Nat) (j : Nat) (k2 : Int32) (fp2 : Nat → va_E) (v_11 : Int32) (hm : ∀ i, i < 10 → rr i ∈ LL) (hf : ∀ a ∈ LL, ∃ g, fp a = .inl (cI, 10, .inl g)) (hn_79 : 10 - i < n_79 + 1) (ek : k = nI i) (hk : i ≤ 10) (hf1 : ∀ a ∈ LL, ∃ g, fp1 a = .inl (cI, 10, .inl g)) (c_9 : ¬ 10 ≤ k) (hn_94 : 10 - j < n_94 + 1) (ek2 : k2 = nI j) (hk2 : j ≤ 10) (hf2 : ∀ a ∈ LL, ∃ g, fp2 a = .inl (cI, 10, .inl g)) (c_10 : 10 ≤ k2) (ev_11 : v_11 = k + 1) : v_11 = nI (i + 1) := by
  subst_vars
  exact nI_1 i
set_option maxHeartbeats 1000000 in
theorem pf_X1_init_4 (cI : ClassId) (rr : Nat → Nat) (LL : List Nat) (fp : Nat → va_E) (n_79 : Nat) (i : Nat) (k : Int32) (fp1 : Nat → va_E) (n_94 : Nat) (j : Nat) (k2 : Int32) (fp2 : Nat → va_E) (v_11 : Int32) (hm : ∀ i, i < 10 → rr i ∈ LL) (hf : ∀ a ∈ LL, ∃ g, fp a = .inl (cI, 10, .inl g)) (hn_79 : 10 - i < n_79 + 1) (ek : k = nI i) (hk : i ≤ 10) (hf1 : ∀ a ∈ LL, ∃ g, fp1 a = .inl (cI, 10, .inl g)) (c_9 : ¬ 10 ≤ k) (hn_94 : 10 - j < n_94 + 1) (ek2 : k2 = nI j) (hk2 : j ≤ 10) (hf2 : ∀ a ∈ LL, ∃ g, fp2 a = .inl (cI, 10, .inl g)) (c_10 : 10 ≤ k2) (ev_11 : v_11 = k + 1) : (i + 1) ≤ 10 := by
  have := lp_lt (N := 10) ek hk (by omega) (by assumption)
  omega
set_option maxHeartbeats 1000000 in
theorem pf_X1_init_5 (cI : ClassId) (rr : Nat → Nat) (LL : List Nat) (fp : Nat → va_E) (n_79 : Nat) (i : Nat) (k : Int32) (fp1 : Nat → va_E) (n_94 : Nat) (j : Nat) (k2 : Int32) (fp2 : Nat → va_E) (v_11 : Int32) (hm : ∀ i, i < 10 → rr i ∈ LL) (hf : ∀ a ∈ LL, ∃ g, fp a = .inl (cI, 10, .inl g)) (hn_79 : 10 - i < n_79 + 1) (ek : k = nI i) (hk : i ≤ 10) (hf1 : ∀ a ∈ LL, ∃ g, fp1 a = .inl (cI, 10, .inl g)) (c_9 : ¬ 10 ≤ k) (hn_94 : 10 - j < n_94 + 1) (ek2 : k2 = nI j) (hk2 : j ≤ 10) (hf2 : ∀ a ∈ LL, ∃ g, fp2 a = .inl (cI, 10, .inl g)) (c_10 : 10 ≤ k2) (ev_11 : v_11 = k + 1) : ∀ a ∈ LL, ∃ g, fp2 a = .inl (cI, 10, .inl g) := by
  exact hf2
set_option maxHeartbeats 1000000 in
theorem pf_X1_init_6 (cI : ClassId) (rr : Nat → Nat) (LL : List Nat) (fp : Nat → va_E) (n_79 : Nat) (i : Nat) (k : Int32) (fp1 : Nat → va_E) (n_94 : Nat) (j : Nat) (k2 : Int32) (fp2 : Nat → va_E) (hm : ∀ i, i < 10 → rr i ∈ LL) (hf : ∀ a ∈ LL, ∃ g, fp a = .inl (cI, 10, .inl g)) (hn_79 : 10 - i < n_79 + 1) (ek : k = nI i) (hk : i ≤ 10) (hf1 : ∀ a ∈ LL, ∃ g, fp1 a = .inl (cI, 10, .inl g)) (c_9 : ¬ 10 ≤ k) (hn_94 : 10 - j < n_94 + 1) (ek2 : k2 = nI j) (hk2 : j ≤ 10) (hf2 : ∀ a ∈ LL, ∃ g, fp2 a = .inl (cI, 10, .inl g)) (c_10 : ¬ 10 ≤ k2) : vp_in k 10 := by
  exact lp_in (N := 10) ek hk (by omega) (by assumption)
set_option maxHeartbeats 1000000 in
theorem pf_X1_init_7 (cI : ClassId) (rr : Nat → Nat) (LL : List Nat) (fp : Nat → va_E) (n_79 : Nat) (i : Nat) (k : Int32) (fp1 : Nat → va_E) (n_94 : Nat) (j : Nat) (k2 : Int32) (fp2 : Nat → va_E) (hm : ∀ i, i < 10 → rr i ∈ LL) (hf : ∀ a ∈ LL, ∃ g, fp a = .inl (cI, 10, .inl g)) (hn_79 : 10 - i < n_79 + 1) (ek : k = nI i) (hk : i ≤ 10) (hf1 : ∀ a ∈ LL, ∃ g, fp1 a = .inl (cI, 10, .inl g)) (c_9 : ¬ 10 ≤ k) (hn_94 : 10 - j < n_94 + 1) (ek2 : k2 = nI j) (hk2 : j ≤ 10) (hf2 : ∀ a ∈ LL, ∃ g, fp2 a = .inl (cI, 10, .inl g)) (c_10 : ¬ 10 ≤ k2) : k.toNatClampNeg = i := by
  exact nI_cl ek (by omega)
set_option maxHeartbeats 1000000 in
theorem pf_X1_init_8 (cI : ClassId) (rr : Nat → Nat) (LL : List Nat) (fp : Nat → va_E) (n_79 : Nat) (i : Nat) (k : Int32) (fp1 : Nat → va_E) (n_94 : Nat) (j : Nat) (k2 : Int32) (fp2 : Nat → va_E) (hm : ∀ i, i < 10 → rr i ∈ LL) (hf : ∀ a ∈ LL, ∃ g, fp a = .inl (cI, 10, .inl g)) (hn_79 : 10 - i < n_79 + 1) (ek : k = nI i) (hk : i ≤ 10) (hf1 : ∀ a ∈ LL, ∃ g, fp1 a = .inl (cI, 10, .inl g)) (c_9 : ¬ 10 ≤ k) (hn_94 : 10 - j < n_94 + 1) (ek2 : k2 = nI j) (hk2 : j ≤ 10) (hf2 : ∀ a ∈ LL, ∃ g, fp2 a = .inl (cI, 10, .inl g)) (c_10 : ¬ 10 ≤ k2) : i < 10 := by
  exact lp_lt (N := 10) ek hk (by omega) (by assumption)
set_option maxHeartbeats 1000000 in
theorem pf_X1_init_9 (cI : ClassId) (rr : Nat → Nat) (LL : List Nat) (fp : Nat → va_E) (n_79 : Nat) (i : Nat) (k : Int32) (fp1 : Nat → va_E) (n_94 : Nat) (j : Nat) (k2 : Int32) (fp2 : Nat → va_E) (hm : ∀ i, i < 10 → rr i ∈ LL) (hf : ∀ a ∈ LL, ∃ g, fp a = .inl (cI, 10, .inl g)) (hn_79 : 10 - i < n_79 + 1) (ek : k = nI i) (hk : i ≤ 10) (hf1 : ∀ a ∈ LL, ∃ g, fp1 a = .inl (cI, 10, .inl g)) (c_9 : ¬ 10 ≤ k) (hn_94 : 10 - j < n_94 + 1) (ek2 : k2 = nI j) (hk2 : j ≤ 10) (hf2 : ∀ a ∈ LL, ∃ g, fp2 a = .inl (cI, 10, .inl g)) (c_10 : ¬ 10 ≤ k2) : vp_in k2 10 := by
  exact lp_in (N := 10) ek2 hk2 (by omega) (by assumption)
set_option maxHeartbeats 1000000 in
theorem pf_X1_init_10 (cI : ClassId) (rr : Nat → Nat) (LL : List Nat) (fp : Nat → va_E) (n_79 : Nat) (i : Nat) (k : Int32) (fp1 : Nat → va_E) (n_94 : Nat) (j : Nat) (k2 : Int32) (fp2 : Nat → va_E) (hm : ∀ i, i < 10 → rr i ∈ LL) (hf : ∀ a ∈ LL, ∃ g, fp a = .inl (cI, 10, .inl g)) (hn_79 : 10 - i < n_79 + 1) (ek : k = nI i) (hk : i ≤ 10) (hf1 : ∀ a ∈ LL, ∃ g, fp1 a = .inl (cI, 10, .inl g)) (c_9 : ¬ 10 ≤ k) (hn_94 : 10 - j < n_94 + 1) (ek2 : k2 = nI j) (hk2 : j ≤ 10) (hf2 : ∀ a ∈ LL, ∃ g, fp2 a = .inl (cI, 10, .inl g)) (c_10 : ¬ 10 ≤ k2) : i < 10 := by
  exact lp_lt (N := 10) ek hk (by omega) (by assumption)
set_option maxHeartbeats 1000000 in
theorem pf_X1_init_11 (cI : ClassId) (rr : Nat → Nat) (LL : List Nat) (fp : Nat → va_E) (n_79 : Nat) (i : Nat) (k : Int32) (fp1 : Nat → va_E) (n_94 : Nat) (j : Nat) (k2 : Int32) (fp2 : Nat → va_E) (v_13 : Int32) (hm : ∀ i, i < 10 → rr i ∈ LL) (hf : ∀ a ∈ LL, ∃ g, fp a = .inl (cI, 10, .inl g)) (hn_79 : 10 - i < n_79 + 1) (ek : k = nI i) (hk : i ≤ 10) (hf1 : ∀ a ∈ LL, ∃ g, fp1 a = .inl (cI, 10, .inl g)) (c_9 : ¬ 10 ≤ k) (hn_94 : 10 - j < n_94 + 1) (ek2 : k2 = nI j) (hk2 : j ≤ 10) (hf2 : ∀ a ∈ LL, ∃ g, fp2 a = .inl (cI, 10, .inl g)) (c_10 : ¬ 10 ≤ k2) (ev_13 : v_13 = k2 + 1) : 10 - (j + 1) < n_94 := by
  have := lp_lt (N := 10) ek2 hk2 (by omega) (by assumption)
  omega
set_option maxHeartbeats 1000000 in
theorem pf_X1_init_12 (cI : ClassId) (rr : Nat → Nat) (LL : List Nat) (fp : Nat → va_E) (n_79 : Nat) (i : Nat) (k : Int32) (fp1 : Nat → va_E) (n_94 : Nat) (j : Nat) (k2 : Int32) (fp2 : Nat → va_E) (v_13 : Int32) (hm : ∀ i, i < 10 → rr i ∈ LL) (hf : ∀ a ∈ LL, ∃ g, fp a = .inl (cI, 10, .inl g)) (hn_79 : 10 - i < n_79 + 1) (ek : k = nI i) (hk : i ≤ 10) (hf1 : ∀ a ∈ LL, ∃ g, fp1 a = .inl (cI, 10, .inl g)) (c_9 : ¬ 10 ≤ k) (hn_94 : 10 - j < n_94 + 1) (ek2 : k2 = nI j) (hk2 : j ≤ 10) (hf2 : ∀ a ∈ LL, ∃ g, fp2 a = .inl (cI, 10, .inl g)) (c_10 : ¬ 10 ≤ k2) (ev_13 : v_13 = k2 + 1) : v_13 = nI (j + 1) := by
  subst_vars
  exact nI_1 j
set_option maxHeartbeats 1000000 in
theorem pf_X1_init_13 (cI : ClassId) (rr : Nat → Nat) (LL : List Nat) (fp : Nat → va_E) (n_79 : Nat) (i : Nat) (k : Int32) (fp1 : Nat → va_E) (n_94 : Nat) (j : Nat) (k2 : Int32) (fp2 : Nat → va_E) (v_13 : Int32) (hm : ∀ i, i < 10 → rr i ∈ LL) (hf : ∀ a ∈ LL, ∃ g, fp a = .inl (cI, 10, .inl g)) (hn_79 : 10 - i < n_79 + 1) (ek : k = nI i) (hk : i ≤ 10) (hf1 : ∀ a ∈ LL, ∃ g, fp1 a = .inl (cI, 10, .inl g)) (c_9 : ¬ 10 ≤ k) (hn_94 : 10 - j < n_94 + 1) (ek2 : k2 = nI j) (hk2 : j ≤ 10) (hf2 : ∀ a ∈ LL, ∃ g, fp2 a = .inl (cI, 10, .inl g)) (c_10 : ¬ 10 ≤ k2) (ev_13 : v_13 = k2 + 1) : (j + 1) ≤ 10 := by
  have := lp_lt (N := 10) ek2 hk2 (by omega) (by assumption)
  omega
set_option maxHeartbeats 1000000 in
theorem pf_X1_init_14 (cI : ClassId) (rr : Nat → Nat) (LL : List Nat) (fp : Nat → va_E) (n_79 : Nat) (i : Nat) (k : Int32) (fp1 : Nat → va_E) (n_94 : Nat) (j : Nat) (k2 : Int32) (fp2 : Nat → va_E) (gr_12 : Nat → Int32) (v_13 : Int32) (hm : ∀ i, i < 10 → rr i ∈ LL) (hf : ∀ a ∈ LL, ∃ g, fp a = .inl (cI, 10, .inl g)) (hn_79 : 10 - i < n_79 + 1) (ek : k = nI i) (hk : i ≤ 10) (hf1 : ∀ a ∈ LL, ∃ g, fp1 a = .inl (cI, 10, .inl g)) (c_9 : ¬ 10 ≤ k) (hn_94 : 10 - j < n_94 + 1) (ek2 : k2 = nI j) (hk2 : j ≤ 10) (hf2 : ∀ a ∈ LL, ∃ g, fp2 a = .inl (cI, 10, .inl g)) (c_10 : ¬ 10 ≤ k2) (ev_13 : v_13 = k2 + 1) : ∀ a ∈ LL, ∃ g, (va_up fp2 (rr i) (.inl (cI, 10, .inl (upd gr_12 k2.toNatClampNeg (-1))))) a = .inl (cI, 10, .inl g) := by
  intro a ha
  unfold va_up
  split
  · exact ⟨_, rfl⟩
  · exact hf2 a ha
set_option maxHeartbeats 1000000 in
theorem pf_X1_init_15 (cI : ClassId) (rr : Nat → Nat) (LL : List Nat) (fp : Nat → va_E) (n_79 : Nat) (i : Nat) (k : Int32) (fp1 : Nat → va_E) (hm : ∀ i, i < 10 → rr i ∈ LL) (hf : ∀ a ∈ LL, ∃ g, fp a = .inl (cI, 10, .inl g)) (hn_79 : 10 - i < n_79 + 1) (ek : k = nI i) (hk : i ≤ 10) (hf1 : ∀ a ∈ LL, ∃ g, fp1 a = .inl (cI, 10, .inl g)) (c_9 : ¬ 10 ≤ k) : (0 : Int32) = nI 0 := by
  exact nI_0.symm
set_option maxHeartbeats 1000000 in
theorem pf_X1_init_16 (cI : ClassId) (rr : Nat → Nat) (LL : List Nat) (fp : Nat → va_E) (n_79 : Nat) (i : Nat) (k : Int32) (fp1 : Nat → va_E) (hm : ∀ i, i < 10 → rr i ∈ LL) (hf : ∀ a ∈ LL, ∃ g, fp a = .inl (cI, 10, .inl g)) (hn_79 : 10 - i < n_79 + 1) (ek : k = nI i) (hk : i ≤ 10) (hf1 : ∀ a ∈ LL, ∃ g, fp1 a = .inl (cI, 10, .inl g)) (c_9 : ¬ 10 ≤ k) : 0 ≤ 10 := by
  omega
set_option maxHeartbeats 1000000 in
theorem pf_X1_init_17 (cI : ClassId) (rr : Nat → Nat) (LL : List Nat) (fp : Nat → va_E) (n_79 : Nat) (i : Nat) (k : Int32) (fp1 : Nat → va_E) (hm : ∀ i, i < 10 → rr i ∈ LL) (hf : ∀ a ∈ LL, ∃ g, fp a = .inl (cI, 10, .inl g)) (hn_79 : 10 - i < n_79 + 1) (ek : k = nI i) (hk : i ≤ 10) (hf1 : ∀ a ∈ LL, ∃ g, fp1 a = .inl (cI, 10, .inl g)) (c_9 : ¬ 10 ≤ k) : ∀ a ∈ LL, ∃ g, fp1 a = .inl (cI, 10, .inl g) := by
  exact hf1
set_option maxHeartbeats 1000000 in
theorem pf_X1_init_18 (cI : ClassId) (rr : Nat → Nat) (LL : List Nat) (fp : Nat → va_E) (hm : ∀ i, i < 10 → rr i ∈ LL) (hf : ∀ a ∈ LL, ∃ g, fp a = .inl (cI, 10, .inl g)) : (0 : Int32) = nI 0 := by
  exact nI_0.symm
set_option maxHeartbeats 1000000 in
theorem pf_X1_init_19 (cI : ClassId) (rr : Nat → Nat) (LL : List Nat) (fp : Nat → va_E) (hm : ∀ i, i < 10 → rr i ∈ LL) (hf : ∀ a ∈ LL, ∃ g, fp a = .inl (cI, 10, .inl g)) : 0 ≤ 10 := by
  omega
set_option maxHeartbeats 1000000 in
theorem pf_X1_init_20 (cI : ClassId) (rr : Nat → Nat) (LL : List Nat) (fp : Nat → va_E) (hm : ∀ i, i < 10 → rr i ∈ LL) (hf : ∀ a ∈ LL, ∃ g, fp a = .inl (cI, 10, .inl g)) : ∀ a ∈ LL, ∃ g, fp a = .inl (cI, 10, .inl g) := by
  exact hf
set_option maxHeartbeats 4000000 in
set_option maxRecDepth 100000 in
theorem c_X1_init (l : Launch) (D : va_G) (cI : ClassId) (sz : Nat) (h1 : Nat) : CtV l yX1_init wsX1_init 1 12 18 180 [.ref h1] D [(cI, .int)] [(h1, .inr (1, [.null, .null, .null, .null, .null, .null, .null, .null, .int 0]))] sz (fun (u : Nat × Nat × Nat × Nat × Nat × Nat × Nat × Nat × (Nat → Int32) × (Nat → Int32) × (Nat → Int32) × (Nat → Int32) × (Nat → Int32) × (Nat → Int32) × (Nat → Int32)) => True) (fun (u : Nat × Nat × Nat × Nat × Nat × Nat × Nat × Nat × (Nat → Int32) × (Nat → Int32) × (Nat → Int32) × (Nat → Int32) × (Nat → Int32) × (Nat → Int32) × (Nat → Int32)) => [(h1, .inr (1, [.ref u.1, .ref u.2.1, .ref u.2.2.1, .ref u.2.2.2.1, .ref u.2.2.2.2.1, .ref u.2.2.2.2.2.1, .ref u.2.2.2.2.2.2.1, .ref u.2.2.2.2.2.2.2.1, .int 0])), (u.1, .inl (cI, 10, .inl u.2.2.2.2.2.2.2.2.1)), (u.2.1, .inl (cI, 10, .inl u.2.2.2.2.2.2.2.2.2.1)), (u.2.2.1, .inl (cI, 10, .inl u.2.2.2.2.2.2.2.2.2.2.1)), (u.2.2.2.1, .inl (cI, 10, .inl u.2.2.2.2.2.2.2.2.2.2.2.1)), (u.2.2.2.2.1, .inl (cI, 10, .inl u.2.2.2.2.2.2.2.2.2.2.2.2.1)), (u.2.2.2.2.2.1, .inl (cI, 10, .inl u.2.2.2.2.2.2.2.2.2.2.2.2.2.1)), (u.2.2.2.2.2.2.2.1, .inl (cI, 10, .inl u.2.2.2.2.2.2.2.2.2.2.2.2.2.2))]) := by
  refine Met.ofW (cc := cX1_init) (maxL := 3) (ret := none) (by decide) rfl ?_
  intro p e s m args below meth c s₁ B hml hv
  obtain ⟨rfl, hsz, hP, hK, hD0, hN⟩ := hv
  have hx := B.exec
  have hb := B.bytes
  have hr := B.returns
  have hts := atoms_spec (ws := wsX1_init) B.pre
  have hown : s.vm.findClass RX1 = some m.cls := findClass_of_methodNamed B.named
  have hlocks := B.notSynchronized
  have hin : meth.name = "<init>" := (name_of_methodNamed B.named B.method).1
  subst hsz
  have hD := hD0.self (sz := s.heap.size)
  generalize hAe : va_A [(h1, .inr (1, [.null, .null, .null, .null, .null, .null, .null, .null, .int 0]))] s.heap.size = A at hD ⊢
  have hA : ∀ q : Nat, s.heap.size ≤ q → A q := fun q h => by rw [← hAe]; exact Or.inr h
  have hS : va_S A s.heap s.heap [] := va_S.rf
  have hl := lv_entry ([.ref h1]) (n := 3) (Nat.le_of_ble_eq_true rfl)
  rw [lg_entry_eq]
  generalize (lg_sl ([.ref h1]) ++ List.replicate (3 - (lg_sl ([.ref h1])).length) Slot.unset).toArray = ls at hl ⊢
  have hl : lv_has ls 3 [(0, .ref h1)] := hl
  refine W_gen (fun GW hIn hOut => ?_)
  refine hIn _ _ _ _ _ ?_
  have hP0 := hP
  refine lv_aload_n hx hb dX1_init_0 rfl (lv_at hl 0 rfl) ?_
  refine W.objInit hx hb hown (hts _ wd_X1_init_1) (hts _ wd_X1_init_2) (hts _ wd_X1_init_3) rfl (by rw [hml]; exact hl.1) rfl dX1_init_1 (Nat.le_of_ble_eq_true rfl) (Nat.le_of_ble_eq_true rfl) ?_
  refine W.eq (g2 := F0 m 4 ls []) rfl ?_
  refine lv_aload_n hx hb dX1_init_4 rfl (lv_at hl 0 rfl) ?_
  refine lv_bipush (v := 10) hx hb dX1_init_5 (by decide) ?_
  refine va_newa (atype := .int) (a0 := (10, .inl (fun _ => (0 : Int32)))) (N' := 10) hx hb (hts _ wd_X1_init_4) rfl hK hP hD hS hA (fun _ => rfl) (by decide) (by decide) (by decide) (Nat.le_of_ble_eq_true rfl) (Nat.le_of_ble_eq_true rfl) dX1_init_7 (fun q_1 cA H hK hP hD hS => ?_)
  have ecA := (cA_is (t0 := 0) (t1 := 1) hK rfl rfl).symm
  subst ecA
  have hK := hK.sub (tys' := [(cI, .int)]) [0] rfl
  have hP : va_P D vwCl [(h1, .inr (1, [.null, .null, .null, .null, .null, .null, .null, .null, .int 0])), (q_1, .inl (cI, 10, .inl (fun _ => (0 : Int32))))] H := hP
  have hD : va_D A [(h1, .inr (1, [.null, .null, .null, .null, .null, .null, .null, .null, .int 0])), (q_1, .inl (cI, 10, .inl (fun _ => (0 : Int32))))] := hD
  refine W.widen (k := 1) (n := 10) (Nat.le_of_ble_eq_true rfl) (Nat.le_of_ble_eq_true rfl) ?_
  refine va_putF (D := D) (ci := 1) (v := .ref q_1) (ty := .array .int) (C := RX1) (T := TX1) (N := 9) hx hb hts iw_X1_init_1 tyX1 tyX1_ok nmX1 hown hK hP hD hS 0 rfl rfl 0 (by decide) (hts _ wd_X1_init_5) (fun _ h9 => h9) rfl hin rfl (by decide +kernel) rfl rfl (Nat.le_of_ble_eq_true rfl) dX1_init_9 (fun H locs hP hD hS => ?_)
  have hP : va_P D vwCl [(h1, .inr (1, [.ref q_1, .null, .null, .null, .null, .null, .null, .null, .int 0])), (q_1, .inl (cI, 10, .inl (fun _ => (0 : Int32))))] H := hP
  have hD : va_D A [(h1, .inr (1, [.ref q_1, .null, .null, .null, .null, .null, .null, .null, .int 0])), (q_1, .inl (cI, 10, .inl (fun _ => (0 : Int32))))] := hD
  refine lv_aload_n hx hb dX1_init_12 rfl (lv_at hl 0 rfl) ?_
  refine lv_bipush (v := 10) hx hb dX1_init_13 (by decide) ?_
  refine va_newa (atype := .int) (a0 := (10, .inl (fun _ => (0 : Int32)))) (N' := 10) hx hb (hts _ wd_X1_init_4) rfl hK hP hD hS hA (fun _ => rfl) (by decide) (by decide) (by decide) (Nat.le_of_ble_eq_true rfl) (Nat.le_of_ble_eq_true rfl) dX1_init_15 (fun q_2 cA H hK hP hD hS => ?_)
  have ecA := (cA_is (t0 := 0) (t1 := 1) hK rfl rfl).symm
  subst ecA
  have hK := hK.sub (tys' := [(cI, .int)]) [0] rfl
  have hP : va_P D vwCl [(h1, .inr (1, [.ref q_1, .null, .null, .null, .null, .null, .null, .null, .int 0])), (q_1, .inl (cI, 10, .inl (fun _ => (0 : Int32)))), (q_2, .inl (cI, 10, .inl (fun _ => (0 : Int32))))] H := hP
  have hD : va_D A [(h1, .inr (1, [.ref q_1, .null, .null, .null, .null, .null, .null, .null, .int 0])), (q_1, .inl (cI, 10, .inl (fun _ => (0 : Int32)))), (q_2, .inl (cI, 10, .inl (fun _ => (0 : Int32))))] := hD
  refine W.widen (k := 2) (n := 20) (Nat.le_of_ble_eq_true rfl) (Nat.le_of_ble_eq_true rfl) ?_
  refine va_putF (D := D) (ci := 1) (v := .ref q_2) (ty := .array .int) (C := RX1) (T := TX1) (N := 9) hx hb hts iw_X1_init_1 tyX1 tyX1_ok nmX1 hown hK hP hD hS 0 rfl rfl 1 (by decide) (hts _ wd_X1_init_6) (fun _ h9 => h9) rfl hin rfl (by decide +kernel) rfl rfl (Nat.le_of_ble_eq_true rfl) dX1_init_17 (fun H locs hP hD hS => ?_)
  have hP : va_P D vwCl [(h1, .inr (1, [.ref q_1, .ref q_2, .null, .null, .null, .null, .null, .null, .int 0])), (q_1, .inl (cI, 10, .inl (fun _ => (0 : Int32)))), (q_2, .inl (cI, 10, .inl (fun _ => (0 : Int32))))] H := hP
  have hD : va_D A [(h1, .inr (1, [.ref q_1, .ref q_2, .null, .null, .null, .null, .null, .null, .int 0])), (q_1, .inl (cI, 10, .inl (fun _ => (0 : Int32)))), (q_2, .inl (cI, 10, .inl (fun _ => (0 : Int32))))] := hD
  refine lv_aload_n hx hb dX1_init_20 rfl (lv_at hl 0 rfl) ?_
  refine lv_bipush (v := 10) hx hb dX1_init_21 (by decide) ?_
  refine va_newa (atype := .int) (a0 := (10, .inl (fun _ => (0 : Int32)))) (N' := 10) hx hb (hts _ wd_X1_init_4) rfl hK hP hD hS hA (fun _ => rfl) (by decide) (by decide) (by decide) (Nat.le_of_ble_eq_true rfl) (Nat.le_of_ble_eq_true rfl) dX1_init_23 (fun q_3 cA H hK hP hD hS => ?_)
  have ecA := (cA_is (t0 := 0) (t1 := 1) hK rfl rfl).symm
  subst ecA
  have hK := hK.sub (tys' := [(cI, .int)]) [0] rfl
  have hP : va_P D vwCl [(h1, .inr (1, [.ref q_1, .ref q_2, .null, .null, .null, .null, .null, .null, .int 0])), (q_1, .inl (cI, 10, .inl (fun _ => (0 : Int32)))), (q_2, .inl (cI, 10, .inl (fun _ => (0 : Int32)))), (q_3, .inl (cI, 10, .inl (fun _ => (0 : Int32))))] H := hP
  have hD : va_D A [(h1, .inr (1, [.ref q_1, .ref q_2, .null, .null, .null, .null, .null, .null, .int 0])), (q_1, .inl (cI, 10, .inl (fun _ => (0 : Int32)))), (q_2, .inl (cI, 10, .inl (fun _ => (0 : Int32)))), (q_3, .inl (cI, 10, .inl (fun _ => (0 : Int32))))] := hD
  refine W.widen (k := 3) (n := 30) (Nat.le_of_ble_eq_true rfl) (Nat.le_of_ble_eq_true rfl) ?_
  refine va_putF (D := D) (ci := 1) (v := .ref q_3) (ty := .array .int) (C := RX1) (T := TX1) (N := 9) hx hb hts iw_X1_init_1 tyX1 tyX1_ok nmX1 hown hK hP hD hS 0 rfl rfl 2 (by decide) (hts _ wd_X1_init_7) (fun _ h9 => h9) rfl hin rfl (by decide +kernel) rfl rfl (Nat.le_of_ble_eq_true rfl) dX1_init_25 (fun H locs hP hD hS => ?_)
  have hP : va_P D vwCl [(h1, .inr (1, [.ref q_1, .ref q_2, .ref q_3, .null, .null, .null, .null, .null, .int 0])), (q_1, .inl (cI, 10, .inl (fun _ => (0 : Int32)))), (q_2, .inl (cI, 10, .inl (fun _ => (0 : Int32)))), (q_3, .inl (cI, 10, .inl (fun _ => (0 : Int32))))] H := hP
  have hD : va_D A [(h1, .inr (1, [.ref q_1, .ref q_2, .ref q_3, .null, .null, .null, .null, .null, .int 0])), (q_1, .inl (cI, 10, .inl (fun _ => (0 : Int32)))), (q_2, .inl (cI, 10, .inl (fun _ => (0 : Int32)))), (q_3, .inl (cI, 10, .inl (fun _ => (0 : Int32))))] := hD
  refine lv_aload_n hx hb dX1_init_28 rfl (lv_at hl 0 rfl) ?_
  refine lv_bipush (v := 10) hx hb dX1_init_29 (by decide) ?_
  refine va_newa (atype := .int) (a0 := (10, .inl (fun _ => (0 : Int32)))) (N' := 10) hx hb (hts _ wd_X1_init_4) rfl hK hP hD hS hA (fun _ => rfl) (by decide) (by decide) (by decide) (Nat.le_of_ble_eq_true rfl) (Nat.le_of_ble_eq_true rfl) dX1_init_31 (fun q_4 cA H hK hP hD hS => ?_)
  have ecA := (cA_is (t0 := 0) (t1 := 1) hK rfl rfl).symm
  subst ecA
  have hK := hK.sub (tys' := [(cI, .int)]) [0] rfl
  have hP : va_P D vwCl [(h1, .inr (1, [.ref q_1, .ref q_2, .ref q_3, .null, .null, .null, .null, .null, .int 0])), (q_1, .inl (cI, 10, .inl (fun _ => (0 : Int32)))), (q_2, .inl (cI, 10, .inl (fun _ => (0 : Int32)))), (q_3, .inl (cI, 10, .inl (fun _ => (0 : Int32)))), (q_4, .inl (cI, 10, .inl (fun _ => (0 : Int32))))] H := hP
  have hD : va_D A [(h1, .inr (1, [.ref q_1, .ref q_2, .ref q_3, .null, .null, .null, .null, .null, .int 0])), (q_1, .inl (cI, 10, .inl (fun _ => (0 : Int32)))), (q_2, .inl (cI, 10, .inl (fun _ => (0 : Int32)))), (q_3, .inl (cI, 10, .inl (fun _ => (0 : Int32)))), (q_4, .inl (cI, 10, .inl (fun _ => (0 : Int32))))] := hD
  refine W.widen (k := 4) (n := 40) (Nat.le_of_ble_eq_true rfl) (Nat.le_of_ble_eq_true rfl) ?_
  refine va_putF (D := D) (ci := 1) (v := .ref q_4) (ty := .array .int) (C := RX1) (T := TX1) (N := 9) hx hb hts iw_X1_init_1 tyX1 tyX1_ok nmX1 hown hK hP hD hS 0 rfl rfl 3 (by decide) (hts _ wd_X1_init_8) (fun _ h9 => h9) rfl hin rfl (by decide +kernel) rfl rfl (Nat.le_of_ble_eq_true rfl) dX1_init_33 (fun H locs hP hD hS => ?_)
  have hP : va_P D vwCl [(h1, .inr (1, [.ref q_1, .ref q_2, .ref q_3, .ref q_4, .null, .null, .null, .null, .int 0])), (q_1, .inl (cI, 10, .inl (fun _ => (0 : Int32)))), (q_2, .inl (cI, 10, .inl (fun _ => (0 : Int32)))), (q_3, .inl (cI, 10, .inl (fun _ => (0 : Int32)))), (q_4, .inl (cI, 10, .inl (fun _ => (0 : Int32))))] H := hP
  have hD : va_D A [(h1, .inr (1, [.ref q_1, .ref q_2, .ref q_3, .ref q_4, .null, .null, .null, .null, .int 0])), (q_1, .inl (cI, 10, .inl (fun _ => (0 : Int32)))), (q_2, .inl (cI, 10, .inl (fun _ => (0 : Int32)))), (q_3, .inl (cI, 10, .inl (fun _ => (0 : Int32)))), (q_4, .inl (cI, 10, .inl (fun _ => (0 : Int32))))] := hD
  refine lv_aload_n hx hb dX1_init_36 rfl (lv_at hl 0 rfl) ?_
  refine lv_bipush (v := 10) hx hb dX1_init_37 (by decide) ?_
  refine va_newa (atype := .int) (a0 := (10, .inl (fun _ => (0 : Int32)))) (N' := 10) hx hb (hts _ wd_X1_init_4) rfl hK hP hD hS hA (fun _ => rfl) (by decide) (by decide) (by decide) (Nat.le_of_ble_eq_true rfl) (Nat.le_of_ble_eq_true rfl) dX1_init_39 (fun q_5 cA H hK hP hD hS => ?_)
  have ecA := (cA_is (t0 := 0) (t1 := 1) hK rfl rfl).symm
  subst ecA
  have hK := hK.sub (tys' := [(cI, .int)]) [0] rfl
  have hP : va_P D vwCl [(h1, .inr (1, [.ref q_1, .ref q_2, .ref q_3, .ref q_4, .null, .null, .null, .null, .int 0])), (q_1, .inl (cI, 10, .inl (fun _ => (0 : Int32)))), (q_2, .inl (cI, 10, .inl (fun _ => (0 : Int32)))), (q_3, .inl (cI, 10, .inl (fun _ => (0 : Int32)))), (q_4, .inl (cI, 10, .inl (fun _ => (0 : Int32)))), (q_5, .inl (cI, 10, .inl (fun _ => (0 : Int32))))] H := hP
  have hD : va_D A [(h1, .inr (1, [.ref q_1, .ref q_2, .ref q_3, .ref q_4, .null, .null, .null, .null, .int 0])), (q_1, .inl (cI, 10, .inl (fun _ => (0 : Int32)))), (q_2, .inl (cI, 10, .inl (fun _ => (0 : Int32)))), (q_3, .inl (cI, 10, .inl (fun _ => (0 : Int32)))), (q_4, .inl (cI, 10, .inl (fun _ => (0 : Int32)))), (q_5, .inl (cI, 10, .inl (fun _ => (0 : Int32))))] := hD
  refine W.widen (k := 5) (n := 50) (Nat.le_of_ble_eq_true rfl) (Nat.le_of_ble_eq_true rfl) ?_
  refine va_putF (D := D) (ci := 1) (v := .ref q_5) (ty := .array .int) (C := RX1) (T := TX1) (N := 9) hx hb hts iw_X1_init_1 tyX1 tyX1_ok nmX1 hown hK hP hD hS 0 rfl rfl 4 (by decide) (hts _ wd_X1_init_9) (fun _ h9 => h9) rfl hin rfl (by decide +kernel) rfl rfl (Nat.le_of_ble_eq_true rfl) dX1_init_41 (fun H locs hP hD hS => ?_)
  have hP : va_P D vwCl [(h1, .inr (1, [.ref q_1, .ref q_2, .ref q_3, .ref q_4, .ref q_5, .null, .null, .null, .int 0])), (q_1, .inl (cI, 10, .inl (fun _ => (0 : Int32)))), (q_2, .inl (cI, 10, .inl (fun _ => (0 : Int32)))), (q_3, .inl (cI, 10, .inl (fun _ => (0 : Int32)))), (q_4, .inl (cI, 10, .inl (fun _ => (0 : Int32)))), (q_5, .inl (cI, 10, .inl (fun _ => (0 : Int32))))] H := hP
  have hD : va_D A [(h1, .inr (1, [.ref q_1, .ref q_2, .ref q_3, .ref q_4, .ref q_5, .null, .null, .null, .int 0])), (q_1, .inl (cI, 10, .inl (fun _ => (0 : Int32)))), (q_2, .inl (cI, 10, .inl (fun _ => (0 : Int32)))), (q_3, .inl (cI, 10, .inl (fun _ => (0 : Int32)))), (q_4, .inl (cI, 10, .inl (fun _ => (0 : Int32)))), (q_5, .inl (cI, 10, .inl (fun _ => (0 : Int32))))] := hD
  refine lv_aload_n hx hb dX1_init_44 rfl (lv_at hl 0 rfl) ?_
  refine lv_bipush (v := 10) hx hb dX1_init_45 (by decide) ?_
  refine va_newa (atype := .int) (a0 := (10, .inl (fun _ => (0 : Int32)))) (N' := 10) hx hb (hts _ wd_X1_init_4) rfl hK hP hD hS hA (fun _ => rfl) (by decide) (by decide) (by decide) (Nat.le_of_ble_eq_true rfl) (Nat.le_of_ble_eq_true rfl) dX1_init_47 (fun q_6 cA H hK hP hD hS => ?_)
  have ecA := (cA_is (t0 := 0) (t1 := 1) hK rfl rfl).symm
  subst ecA
  have hK := hK.sub (tys' := [(cI, .int)]) [0] rfl
  have hP : va_P D vwCl [(h1, .inr (1, [.ref q_1, .ref q_2, .ref q_3, .ref q_4, .ref q_5, .null, .null, .null, .int 0])), (q_1, .inl (cI, 10, .inl (fun _ => (0 : Int32)))), (q_2, .inl (cI, 10, .inl (fun _ => (0 : Int32)))), (q_3, .inl (cI, 10, .inl (fun _ => (0 : Int32)))), (q_4, .inl (cI, 10, .inl (fun _ => (0 : Int32)))), (q_5, .inl (cI, 10, .inl (fun _ => (0 : Int32)))), (q_6, .inl (cI, 10, .inl (fun _ => (0 : Int32))))] H := hP
  have hD : va_D A [(h1, .inr (1, [.ref q_1, .ref q_2, .ref q_3, .ref q_4, .ref q_5, .null, .null, .null, .int 0])), (q_1, .inl (cI, 10, .inl (fun _ => (0 : Int32)))), (q_2, .inl (cI, 10, .inl (fun _ => (0 : Int32)))), (q_3, .inl (cI, 10, .inl (fun _ => (0 : Int32)))), (q_4, .inl (cI, 10, .inl (fun _ => (0 : Int32)))), (q_5, .inl (cI, 10, .inl (fun _ => (0 : Int32)))), (q_6, .inl (cI, 10, .inl (fun _ => (0 : Int32))))] := hD
  refine W.widen (k := 6) (n := 60) (Nat.le_of_ble_eq_true rfl) (Nat.le_of_ble_eq_true rfl) ?_
  refine va_putF (D := D) (ci := 1) (v := .ref q_6) (ty := .array .int) (C := RX1) (T := TX1) (N := 9) hx hb hts iw_X1_init_1 tyX1 tyX1_ok nmX1 hown hK hP hD hS 0 rfl rfl 5 (by decide) (hts _ wd_X1_init_10) (fun _ h9 => h9) rfl hin rfl (by decide +kernel) rfl rfl (Nat.le_of_ble_eq_true rfl) dX1_init_49 (fun H locs hP hD hS => ?_)
  have hP : va_P D vwCl [(h1, .inr (1, [.ref q_1, .ref q_2, .ref q_3, .ref q_4, .ref q_5, .ref q_6, .null, .null, .int 0])), (q_1, .inl (cI, 10, .inl (fun _ => (0 : Int32)))), (q_2, .inl (cI, 10, .inl (fun _ => (0 : Int32)))), (q_3, .inl (cI, 10, .inl (fun _ => (0 : Int32)))), (q_4, .inl (cI, 10, .inl (fun _ => (0 : Int32)))), (q_5, .inl (cI, 10, .inl (fun _ => (0 : Int32)))), (q_6, .inl (cI, 10, .inl (fun _ => (0 : Int32))))] H := hP
  have hD : va_D A [(h1, .inr (1, [.ref q_1, .ref q_2, .ref q_3, .ref q_4, .ref q_5, .ref q_6, .null, .null, .int 0])), (q_1, .inl (cI, 10, .inl (fun _ => (0 : Int32)))), (q_2, .inl (cI, 10, .inl (fun _ => (0 : Int32)))), (q_3, .inl (cI, 10, .inl (fun _ => (0 : Int32)))), (q_4, .inl (cI, 10, .inl (fun _ => (0 : Int32)))), (q_5, .inl (cI, 10, .inl (fun _ => (0 : Int32)))), (q_6, .inl (cI, 10, .inl (fun _ => (0 : Int32))))] := hD
  refine lv_aload_n hx hb dX1_init_52 rfl (lv_at hl 0 rfl) ?_
  refine lv_bipush (v := 10) hx hb dX1_init_53 (by decide) ?_
  refine lv_bipush (v := 10) hx hb dX1_init_55 (by decide) ?_
  refine va_mna (D := D) (cl := vwCl) (X := [(h1, .inr (1, [.ref q_1, .ref q_2, .ref q_3, .ref q_4, .ref q_5, .ref q_6, .null, .null, .int 0])), (q_1, .inl (cI, 10, .inl (fun _ => (0 : Int32)))), (q_2, .inl (cI, 10, .inl (fun _ => (0 : Int32)))), (q_3, .inl (cI, 10, .inl (fun _ => (0 : Int32)))), (q_4, .inl (cI, 10, .inl (fun _ => (0 : Int32)))), (q_5, .inl (cI, 10, .inl (fun _ => (0 : Int32)))), (q_6, .inl (cI, 10, .inl (fun _ => (0 : Int32))))]) (L := []) (f := fun _ => .inl (cI, 10, .inl (fun _ => (0 : Int32)))) (ty := .int) (cy := cI) (z := (10, .inl (fun _ => (0 : Int32)))) (N' := 10) (K' := 10) hx hb hown (hts _ wd_X1_init_11) (over_moved (Vm.Alike.refl _) hN.2) (hts _ wd_X1_init_4) (va_nm_int (hK.2 0 _ rfl).2) hK hP hD hS hA (by decide) (by decide) (by decide) (by decide) (by decide) (by decide) (by decide) rfl rfl (Nat.le_of_ble_eq_true rfl) (Nat.le_of_ble_eq_true rfl) (fun c9 => arrV_new c9 10 (.int 0)) dX1_init_57 (fun q_7 rr cQ H hrr hrl hK hP hD hS => ?_)
  obtain ⟨LL, hLL⟩ : ∃ LL, LL = [] ++ (List.range 10).map rr := ⟨_, rfl⟩
  rw [← hLL] at hP hD
  have hm : ∀ i, i < 10 → rr i ∈ LL := fun i hi => by rw [hLL]; exact List.mem_append_right _ (List.mem_map.mpr ⟨i, List.mem_range.mpr hi, rfl⟩)
  obtain ⟨fp, hfp⟩ : ∃ fp : Nat → va_E, fp = vr_up (fun _ => .inl (cI, 10, .inl (fun _ => (0 : Int32)))) ((List.range 10).map rr) (.inl (cI, (10, .inl (fun _ => (0 : Int32))))) := ⟨_, rfl⟩
  rw [← hfp] at hP hD
  have hf : ∀ a ∈ LL, ∃ g, fp a = .inl (cI, 10, .inl g) := fun a _ => by rw [hfp]; unfold vr_up; split <;> exact ⟨_, rfl⟩
  have hP : va_P D vwCl ([(h1, .inr (1, [.ref q_1, .ref q_2, .ref q_3, .ref q_4, .ref q_5, .ref q_6, .null, .null, .int 0])), (q_1, .inl (cI, 10, .inl (fun _ => (0 : Int32)))), (q_2, .inl (cI, 10, .inl (fun _ => (0 : Int32)))), (q_3, .inl (cI, 10, .inl (fun _ => (0 : Int32)))), (q_4, .inl (cI, 10, .inl (fun _ => (0 : Int32)))), (q_5, .inl (cI, 10, .inl (fun _ => (0 : Int32)))), (q_6, .inl (cI, 10, .inl (fun _ => (0 : Int32)))), (q_7, .inl (cQ, 10, .inr (.inr (.inr (.inr (fun i => if i < 10 then some (rr i) else none))))))] ++ va_pl LL fp) H := hP
  have hD : va_D A ([(h1, .inr (1, [.ref q_1, .ref q_2, .ref q_3, .ref q_4, .ref q_5, .ref q_6, .null, .null, .int 0])), (q_1, .inl (cI, 10, .inl (fun _ => (0 : Int32)))), (q_2, .inl (cI, 10, .inl (fun _ => (0 : Int32)))), (q_3, .inl (cI, 10, .inl (fun _ => (0 : Int32)))), (q_4, .inl (cI, 10, .inl (fun _ => (0 : Int32)))), (q_5, .inl (cI, 10, .inl (fun _ => (0 : Int32)))), (q_6, .inl (cI, 10, .inl (fun _ => (0 : Int32)))), (q_7, .inl (cQ, 10, .inr (.inr (.inr (.inr (fun i => if i < 10 then some (rr i) else none))))))] ++ va_pl LL fp) := hD
  refine W.widen (k := 17) (n := 170) (Nat.le_of_ble_eq_true rfl) (Nat.le_of_ble_eq_true rfl) ?_
  refine va_putF (D := D) (ci := 1) (v := .ref q_7) (ty := .array (.array .int)) (C := RX1) (T := TX1) (N := 9) hx hb hts iw_X1_init_1 tyX1 tyX1_ok nmX1 hown hK hP hD hS 0 rfl rfl 6 (by decide) (hts _ wd_X1_init_12) (fun _ h9 => h9) rfl hin rfl (by decide +kernel) rfl rfl (Nat.le_of_ble_eq_true rfl) dX1_init_61 (fun H locs hP hD hS => ?_)
  have hP : va_P D vwCl ([(h1, .inr (1, [.ref q_1, .ref q_2, .ref q_3, .ref q_4, .ref q_5, .ref q_6, .ref q_7, .null, .int 0])), (q_1, .inl (cI, 10, .inl (fun _ => (0 : Int32)))), (q_2, .inl (cI, 10, .inl (fun _ => (0 : Int32)))), (q_3, .inl (cI, 10, .inl (fun _ => (0 : Int32)))), (q_4, .inl (cI, 10, .inl (fun _ => (0 : Int32)))), (q_5, .inl (cI, 10, .inl (fun _ => (0 : Int32)))), (q_6, .inl (cI, 10, .inl (fun _ => (0 : Int32)))), (q_7, .inl (cQ, 10, .inr (.inr (.inr (.inr (fun i => if i < 10 then some (rr i) else none))))))] ++ va_pl LL fp) H := hP
  have hD : va_D A ([(h1, .inr (1, [.ref q_1, .ref q_2, .ref q_3, .ref q_4, .ref q_5, .ref q_6, .ref q_7, .null, .int 0])), (q_1, .inl (cI, 10, .inl (fun _ => (0 : Int32)))), (q_2, .inl (cI, 10, .inl (fun _ => (0 : Int32)))), (q_3, .inl (cI, 10, .inl (fun _ => (0 : Int32)))), (q_4, .inl (cI, 10, .inl (fun _ => (0 : Int32)))), (q_5, .inl (cI, 10, .inl (fun _ => (0 : Int32)))), (q_6, .inl (cI, 10, .inl (fun _ => (0 : Int32)))), (q_7, .inl (cQ, 10, .inr (.inr (.inr (.inr (fun i => if i < 10 then some (rr i) else none))))))] ++ va_pl LL fp) := hD
  refine lv_aload_n hx hb dX1_init_64 rfl (lv_at hl 0 rfl) ?_
  refine lv_bipush (v := 10) hx hb dX1_init_65 (by decide) ?_
  refine va_newa (atype := .int) (a0 := (10, .inl (fun _ => (0 : Int32)))) (N' := 10) hx hb (hts _ wd_X1_init_4) rfl hK hP hD hS hA (fun _ => rfl) (by decide) (by decide) (by decide) (Nat.le_of_ble_eq_true rfl) (Nat.le_of_ble_eq_true rfl) dX1_init_67 (fun q_8 cA H hK hP hD hS => ?_)
  have ecA := (cA_is (t0 := 0) (t1 := 2) hK rfl rfl).symm
  subst ecA
  have hK := hK.sub (tys' := [(cI, .int), (cQ, .array .int)]) [0, 1] rfl
  have hP : va_P D vwCl (([(h1, .inr (1, [.ref q_1, .ref q_2, .ref q_3, .ref q_4, .ref q_5, .ref q_6, .ref q_7, .null, .int 0])), (q_1, .inl (cI, 10, .inl (fun _ => (0 : Int32)))), (q_2, .inl (cI, 10, .inl (fun _ => (0 : Int32)))), (q_3, .inl (cI, 10, .inl (fun _ => (0 : Int32)))), (q_4, .inl (cI, 10, .inl (fun _ => (0 : Int32)))), (q_5, .inl (cI, 10, .inl (fun _ => (0 : Int32)))), (q_6, .inl (cI, 10, .inl (fun _ => (0 : Int32)))), (q_7, .inl (cQ, 10, .inr (.inr (.inr (.inr (fun i => if i < 10 then some (rr i) else none))))))] ++ [(q_8, .inl (cI, 10, .inl (fun _ => (0 : Int32))))]) ++ va_pl LL fp) H := va_P.swap hP
  have hD : va_D A (([(h1, .inr (1, [.ref q_1, .ref q_2, .ref q_3, .ref q_4, .ref q_5, .ref q_6, .ref q_7, .null, .int 0])), (q_1, .inl (cI, 10, .inl (fun _ => (0 : Int32)))), (q_2, .inl (cI, 10, .inl (fun _ => (0 : Int32)))), (q_3, .inl (cI, 10, .inl (fun _ => (0 : Int32)))), (q_4, .inl (cI, 10, .inl (fun _ => (0 : Int32)))), (q_5, .inl (cI, 10, .inl (fun _ => (0 : Int32)))), (q_6, .inl (cI, 10, .inl (fun _ => (0 : Int32)))), (q_7, .inl (cQ, 10, .inr (.inr (.inr (.inr (fun i => if i < 10 then some (rr i) else none))))))] ++ [(q_8, .inl (cI, 10, .inl (fun _ => (0 : Int32))))]) ++ va_pl LL fp) := va_D.swap hD
  have hP : va_P D vwCl ([(h1, .inr (1, [.ref q_1, .ref q_2, .ref q_3, .ref q_4, .ref q_5, .ref q_6, .ref q_7, .null, .int 0])), (q_1, .inl (cI, 10, .inl (fun _ => (0 : Int32)))), (q_2, .inl (cI, 10, .inl (fun _ => (0 : Int32)))), (q_3, .inl (cI, 10, .inl (fun _ => (0 : Int32)))), (q_4, .inl (cI, 10, .inl (fun _ => (0 : Int32)))), (q_5, .inl (cI, 10, .inl (fun _ => (0 : Int32)))), (q_6, .inl (cI, 10, .inl (fun _ => (0 : Int32)))), (q_7, .inl (cQ, 10, .inr (.inr (.inr (.inr (fun i => if i < 10 then some (rr i) else none)))))), (q_8, .inl (cI, 10, .inl (fun _ => (0 : Int32))))] ++ va_pl LL fp) H := hP
  have hD : va_D A ([(h1, .inr (1, [.ref q_1, .ref q_2, .ref q_3, .ref q_4, .ref q_5, .ref q_6, .ref q_7, .null, .int 0])), (q_1, .inl (cI, 10, .inl (fun _ => (0 : Int32)))), (q_2, .inl (cI, 10, .inl (fun _ => (0 : Int32)))), (q_3, .inl (cI, 10, .inl (fun _ => (0 : Int32)))), (q_4, .inl (cI, 10, .inl (fun _ => (0 : Int32)))), (q_5, .inl (cI, 10, .inl (fun _ => (0 : Int32)))), (q_6, .inl (cI, 10, .inl (fun _ => (0 : Int32)))), (q_7, .inl (cQ, 10, .inr (.inr (.inr (.inr (fun i => if i < 10 then some (rr i) else none)))))), (q_8, .inl (cI, 10, .inl (fun _ => (0 : Int32))))] ++ va_pl LL fp) := hD
  refine W.widen (k := 18) (n := 180) (Nat.le_of_ble_eq_true rfl) (Nat.le_of_ble_eq_true rfl) ?_
  refine va_putF (D := D) (ci := 1) (v := .ref q_8) (ty := .array .int) (C := RX1) (T := TX1) (N := 9) hx hb hts iw_X1_init_1 tyX1 tyX1_ok nmX1 hown hK hP hD hS 0 rfl rfl 7 (by decide) (hts _ wd_X1_init_13) (fun _ h9 => h9) rfl hin rfl (by decide +kernel) rfl rfl (Nat.le_of_ble_eq_true rfl) dX1_init_69 (fun H locs hP hD hS => ?_)
  have hP : va_P D vwCl ([(h1, .inr (1, [.ref q_1, .ref q_2, .ref q_3, .ref q_4, .ref q_5, .ref q_6, .ref q_7, .ref q_8, .int 0])), (q_1, .inl (cI, 10, .inl (fun _ => (0 : Int32)))), (q_2, .inl (cI, 10, .inl (fun _ => (0 : Int32)))), (q_3, .inl (cI, 10, .inl (fun _ => (0 : Int32)))), (q_4, .inl (cI, 10, .inl (fun _ => (0 : Int32)))), (q_5, .inl (cI, 10, .inl (fun _ => (0 : Int32)))), (q_6, .inl (cI, 10, .inl (fun _ => (0 : Int32)))), (q_7, .inl (cQ, 10, .inr (.inr (.inr (.inr (fun i => if i < 10 then some (rr i) else none)))))), (q_8, .inl (cI, 10, .inl (fun _ => (0 : Int32))))] ++ va_pl LL fp) H := hP
  have hD : va_D A ([(h1, .inr (1, [.ref q_1, .ref q_2, .ref q_3, .ref q_4, .ref q_5, .ref q_6, .ref q_7, .ref q_8, .int 0])), (q_1, .inl (cI, 10, .inl (fun _ => (0 : Int32)))), (q_2, .inl (cI, 10, .inl (fun _ => (0 : Int32)))), (q_3, .inl (cI, 10, .inl (fun _ => (0 : Int32)))), (q_4, .inl (cI, 10, .inl (fun _ => (0 : Int32)))), (q_5, .inl (cI, 10, .inl (fun _ => (0 : Int32)))), (q_6, .inl (cI, 10, .inl (fun _ => (0 : Int32)))), (q_7, .inl (cQ, 10, .inr (.inr (.inr (.inr (fun i => if i < 10 then some (rr i) else none)))))), (q_8, .inl (cI, 10, .inl (fun _ => (0 : Int32))))] ++ va_pl LL fp) := hD
  refine lv_aload_n hx hb dX1_init_72 rfl (lv_at hl 0 rfl) ?_
  refine lv_iconst (v := 0) hx hb dX1_init_73 (by decide) ?_
  refine va_put (D := D) (ci := 1) (v := .int 0) (ty := .int) (C := RX1) (T := TX1) (N := 9) hx hb hts iw_X1_init_1 tyX1 tyX1_ok nmX1 hown hK hP hD hS 0 rfl rfl 8 (by decide) (hts _ wd_X1_init_14) (fun _ h9 => h9) rfl (by decide +kernel) rfl rfl (Nat.le_of_ble_eq_true rfl) dX1_init_74 (fun H locs hP hD hS => ?_)
  have hP : va_P D vwCl ([(h1, .inr (1, [.ref q_1, .ref q_2, .ref q_3, .ref q_4, .ref q_5, .ref q_6, .ref q_7, .ref q_8, .int 0])), (q_1, .inl (cI, 10, .inl (fun _ => (0 : Int32)))), (q_2, .inl (cI, 10, .inl (fun _ => (0 : Int32)))), (q_3, .inl (cI, 10, .inl (fun _ => (0 : Int32)))), (q_4, .inl (cI, 10, .inl (fun _ => (0 : Int32)))), (q_5, .inl (cI, 10, .inl (fun _ => (0 : Int32)))), (q_6, .inl (cI, 10, .inl (fun _ => (0 : Int32)))), (q_7, .inl (cQ, 10, .inr (.inr (.inr (.inr (fun i => if i < 10 then some (rr i) else none)))))), (q_8, .inl (cI, 10, .inl (fun _ => (0 : Int32))))] ++ va_pl LL fp) H := hP
  have hD : va_D A ([(h1, .inr (1, [.ref q_1, .ref q_2, .ref q_3, .ref q_4, .ref q_5, .ref q_6, .ref q_7, .ref q_8, .int 0])), (q_1, .inl (cI, 10, .inl (fun _ => (0 : Int32)))), (q_2, .inl (cI, 10, .inl (fun _ => (0 : Int32)))), (q_3, .inl (cI, 10, .inl (fun _ => (0 : Int32)))), (q_4, .inl (cI, 10, .inl (fun _ => (0 : Int32)))), (q_5, .inl (cI, 10, .inl (fun _ => (0 : Int32)))), (q_6, .inl (cI, 10, .inl (fun _ => (0 : Int32)))), (q_7, .inl (cQ, 10, .inr (.inr (.inr (.inr (fun i => if i < 10 then some (rr i) else none)))))), (q_8, .inl (cI, 10, .inl (fun _ => (0 : Int32))))] ++ va_pl LL fp) := hD
  refine lv_iconst (v := 0) hx hb dX1_init_77 (by decide) ?_
  refine lv_istore_n (lv' := [(1, .int 0), (0, .ref h1)]) hx hb dX1_init_78 rfl hl (by decide) rfl (fun ls hl => ?_)
  have lp_79 : ∀ (n : Nat) (i : Nat) (k : Int32) (pd : Nat → Int32) (fp1 : Nat → va_E) (H : Heap) (locs : List Loc) (ls : Array Slot), 10 - i < n → (k = nI i) → (i ≤ 10) → (∀ a ∈ LL, ∃ g, fp1 a = .inl (cI, 10, .inl g)) → va_P D vwCl ([(h1, .inr (1, [.ref q_1, .ref q_2, .ref q_3, .ref q_4, .ref q_5, .ref q_6, .ref q_7, .ref q_8, .int 0])), (q_1, .inl (cI, 10, .inl (fun _ => (0 : Int32)))), (q_2, .inl (cI, 10, .inl (fun _ => (0 : Int32)))), (q_3, .inl (cI, 10, .inl (fun _ => (0 : Int32)))), (q_4, .inl (cI, 10, .inl (fun _ => (0 : Int32)))), (q_5, .inl (cI, 10, .inl (fun _ => (0 : Int32)))), (q_6, .inl (cI, 10, .inl pd)), (q_7, .inl (cQ, 10, .inr (.inr (.inr (.inr (fun i => if i < 10 then some (rr i) else none)))))), (q_8, .inl (cI, 10, .inl (fun _ => (0 : Int32))))] ++ va_pl LL fp1) H → va_D A ([(h1, .inr (1, [.ref q_1, .ref q_2, .ref q_3, .ref q_4, .ref q_5, .ref q_6, .ref q_7, .ref q_8, .int 0])), (q_1, .inl (cI, 10, .inl (fun _ => (0 : Int32)))), (q_2, .inl (cI, 10, .inl (fun _ => (0 : Int32)))), (q_3, .inl (cI, 10, .inl (fun _ => (0 : Int32)))), (q_4, .inl (cI, 10, .inl (fun _ => (0 : Int32)))), (q_5, .inl (cI, 10, .inl (fun _ => (0 : Int32)))), (q_6, .inl (cI, 10, .inl pd)), (q_7, .inl (cQ, 10, .inr (.inr (.inr (.inr (fun i => if i < 10 then some (rr i) else none)))))), (q_8, .inl (cI, 10, .inl (fun _ => (0 : Int32))))] ++ va_pl LL fp1) → va_S A s.heap H locs → lv_has ls 3 [(0, .ref h1), (1, .int k)] → GW H locs 18 180 (F0 m 79 ls []) := by
    intro n_79
    induction n_79 with
    | zero => intro i k pd fp1 H locs ls hn_79; exact absurd hn_79 (Nat.not_lt_zero _)
    | succ n_79 ih_79 =>
      intro i k pd fp1 H locs ls hn_79 ek hk hf1 hP hD hS hl
      refine hIn _ _ _ _ _ ?_
      refine lv_iload_n hx hb dX1_init_79 rfl (lv_at hl 1 rfl) ?_
      refine lv_bipush (v := 10) hx hb dX1_init_80 (by decide) ?_
      refine lv_icmp_ge (tgt := 121) hx hb dX1_init_82 (by decide) (fun c_9 => ?_) (fun c_9 => ?_)
      · refine W.widen (k := 18) (n := 180) (Nat.le_of_ble_eq_true rfl) (Nat.le_of_ble_eq_true rfl) ?_
        exact fi_v (q_1, q_2, q_3, q_4, q_5, q_6, q_7, q_8, fun _ => (0 : Int32), fun _ => (0 : Int32), fun _ => (0 : Int32), fun _ => (0 : Int32), fun _ => (0 : Int32), pd, fun _ => (0 : Int32)) hx hb hr hlocks (hK.sub [0] rfl) (hP.sub [0, 1, 2, 3, 4, 5, 6, 8] rfl) (hD.sub [0, 1, 2, 3, 4, 5, 6, 8] (by decide) rfl) hS trivial dX1_init_121
      · refine lv_aload_n hx hb dX1_init_85 rfl (lv_at hl 0 rfl) ?_
        refine va_get (D := D) (ci := 1) (v := .ref q_6) (C := RX1) (T := TX1) (N := 9) hx hb hts iw_X1_init_1 hown hK hP 0 rfl rfl 5 (by decide) (hts _ wd_X1_init_10) (fun _ h9 => h9) rfl dX1_init_86 ?_
        refine lv_iload_n hx hb dX1_init_89 rfl (lv_at hl 1 rfl) ?_
        refine lv_iconst (v := (-1)) hx hb dX1_init_90 (by decide) ?_
        refine va_iast hx hb hK hP hD hS 6 0 rfl rfl (pf_X1_init_1 cI rr LL fp n_79 i k fp1 hm hf hn_79 ek hk hf1 c_9) dX1_init_91 (fun H locs hP hD hS => ?_)
        have hP : va_P D vwCl ([(h1, .inr (1, [.ref q_1, .ref q_2, .ref q_3, .ref q_4, .ref q_5, .ref q_6, .ref q_7, .ref q_8, .int 0])), (q_1, .inl (cI, 10, .inl (fun _ => (0 : Int32)))), (q_2, .inl (cI, 10, .inl (fun _ => (0 : Int32)))), (q_3, .inl (cI, 10, .inl (fun _ => (0 : Int32)))), (q_4, .inl (cI, 10, .inl (fun _ => (0 : Int32)))), (q_5, .inl (cI, 10, .inl (fun _ => (0 : Int32)))), (q_6, .inl (cI, 10, .inl (upd pd k.toNatClampNeg (-1)))), (q_7, .inl (cQ, 10, .inr (.inr (.inr (.inr (fun i => if i < 10 then some (rr i) else none)))))), (q_8, .inl (cI, 10, .inl (fun _ => (0 : Int32))))] ++ va_pl LL fp1) H := hP
        have hD : va_D A ([(h1, .inr (1, [.ref q_1, .ref q_2, .ref q_3, .ref q_4, .ref q_5, .ref q_6, .ref q_7, .ref q_8, .int 0])), (q_1, .inl (cI, 10, .inl (fun _ => (0 : Int32)))), (q_2, .inl (cI, 10, .inl (fun _ => (0 : Int32)))), (q_3, .inl (cI, 10, .inl (fun _ => (0 : Int32)))), (q_4, .inl (cI, 10, .inl (fun _ => (0 : Int32)))), (q_5, .inl (cI, 10, .inl (fun _ => (0 : Int32)))), (q_6, .inl (cI, 10, .inl (upd pd k.toNatClampNeg (-1)))), (q_7, .inl (cQ, 10, .inr (.inr (.inr (.inr (fun i => if i < 10 then some (rr i) else none)))))), (q_8, .inl (cI, 10, .inl (fun _ => (0 : Int32))))] ++ va_pl LL fp1) := hD
        refine lv_iconst (v := 0) hx hb dX1_init_92 (by decide) ?_
        refine lv_istore_n (lv' := [(2, .int 0), (0, .ref h1), (1, .int k)]) hx hb dX1_init_93 rfl hl (by decide) rfl (fun ls hl => ?_)
        have lp_94 : ∀ (n : Nat) (j : Nat) (k2 : Int32) (fp2 : Nat → va_E) (H : Heap) (locs : List Loc) (ls : Array Slot), 10 - j < n → (k2 = nI j) → (j ≤ 10) → (∀ a ∈ LL, ∃ g, fp2 a = .inl (cI, 10, .inl g)) → va_P D vwCl ([(h1, .inr (1, [.ref q_1, .ref q_2, .ref q_3, .ref q_4, .ref q_5, .ref q_6, .ref q_7, .ref q_8, .int 0])), (q_1, .inl (cI, 10, .inl (fun _ => (0 : Int32)))), (q_2, .inl (cI, 10, .inl (fun _ => (0 : Int32)))), (q_3, .inl (cI, 10, .inl (fun _ => (0 : Int32)))), (q_4, .inl (cI, 10, .inl (fun _ => (0 : Int32)))), (q_5, .inl (cI, 10, .inl (fun _ => (0 : Int32)))), (q_6, .inl (cI, 10, .inl (upd pd k.toNatClampNeg (-1)))), (q_7, .inl (cQ, 10, .inr (.inr (.inr (.inr (fun i => if i < 10 then some (rr i) else none)))))), (q_8, .inl (cI, 10, .inl (fun _ => (0 : Int32))))] ++ va_pl LL fp2) H → va_D A ([(h1, .inr (1, [.ref q_1, .ref q_2, .ref q_3, .ref q_4, .ref q_5, .ref q_6, .ref q_7, .ref q_8, .int 0])), (q_1, .inl (cI, 10, .inl (fun _ => (0 : Int32)))), (q_2, .inl (cI, 10, .inl (fun _ => (0 : Int32)))), (q_3, .inl (cI, 10, .inl (fun _ => (0 : Int32)))), (q_4, .inl (cI, 10, .inl (fun _ => (0 : Int32)))), (q_5, .inl (cI, 10, .inl (fun _ => (0 : Int32)))), (q_6, .inl (cI, 10, .inl (upd pd k.toNatClampNeg (-1)))), (q_7, .inl (cQ, 10, .inr (.inr (.inr (.inr (fun i => if i < 10 then some (rr i) else none)))))), (q_8, .inl (cI, 10, .inl (fun _ => (0 : Int32))))] ++ va_pl LL fp2) → va_S A s.heap H locs → lv_has ls 3 [(0, .ref h1), (1, .int k), (2, .int k2)] → GW H locs 18 180 (F0 m 94 ls []) := by
          intro n_94
          induction n_94 with
          | zero => intro j k2 fp2 H locs ls hn_94; exact absurd hn_94 (Nat.not_lt_zero _)
          | succ n_94 ih_94 =>
            intro j k2 fp2 H locs ls hn_94 ek2 hk2 hf2 hP hD hS hl
            refine hIn _ _ _ _ _ ?_
            refine lv_iload_n hx hb dX1_init_94 rfl (lv_at hl 2 rfl) ?_
            refine lv_bipush (v := 10) hx hb dX1_init_95 (by decide) ?_
            refine lv_icmp_ge (tgt := 115) hx hb dX1_init_97 (by decide) (fun c_10 => ?_) (fun c_10 => ?_)
            · obtain ⟨v_11, ev_11⟩ : ∃ y : Int32, y = k + 1 := ⟨_, rfl⟩
              refine lv_iinc (v := v_11) (lv' := [(1, .int v_11), (0, .ref h1), (2, .int k2)]) hx hb dX1_init_115 hl (k := 1) rfl (by rw [ev_11]; rfl) (by decide) rfl (fun ls hl => ?_)
              refine lv_goto (tgt := 79) hx hb dX1_init_118 (by decide) ?_
              exact hOut _ _ _ _ _ (ih_79 (i + 1) v_11 (upd pd k.toNatClampNeg (-1)) fp2 _ _ _ (pf_X1_init_2 cI rr LL fp n_79 i k fp1 n_94 j k2 fp2 v_11 hm hf hn_79 ek hk hf1 c_9 hn_94 ek2 hk2 hf2 c_10 ev_11) (pf_X1_init_3 cI rr LL fp n_79 i k fp1 n_94 j k2 fp2 v_11 hm hf hn_79 ek hk hf1 c_9 hn_94 ek2 hk2 hf2 c_10 ev_11) (pf_X1_init_4 cI rr LL fp n_79 i k fp1 n_94 j k2 fp2 v_11 hm hf hn_79 ek hk hf1 c_9 hn_94 ek2 hk2 hf2 c_10 ev_11) (pf_X1_init_5 cI rr LL fp n_79 i k fp1 n_94 j k2 fp2 v_11 hm hf hn_79 ek hk hf1 c_9 hn_94 ek2 hk2 hf2 c_10 ev_11) hP hD hS (lv_sub hl [1, 0] rfl))
            · refine lv_aload_n hx hb dX1_init_100 rfl (lv_at hl 0 rfl) ?_
              refine va_get (D := D) (ci := 1) (v := .ref q_7) (C := RX1) (T := TX1) (N := 9) hx hb hts iw_X1_init_1 hown hK hP 0 rfl rfl 6 (by decide) (hts _ wd_X1_init_12) (fun _ h9 => h9) rfl dX1_init_101 ?_
              refine lv_iload_n hx hb dX1_init_104 rfl (lv_at hl 1 rfl) ?_
              refine va_aldA hx hb hK hP 7 1 rfl rfl (pf_X1_init_6 cI rr LL fp n_79 i k fp1 n_94 j k2 fp2 hm hf hn_79 ek hk hf1 c_9 hn_94 ek2 hk2 hf2 c_10) dX1_init_105 ?_
              have hz9 : va_rf ((fun i => if i < 10 then some (rr i) else none) k.toNatClampNeg) = .ref (rr i) := by rw [(pf_X1_init_7 cI rr LL fp n_79 i k fp1 n_94 j k2 fp2 hm hf hn_79 ek hk hf1 c_9 hn_94 ek2 hk2 hf2 c_10)]; simp [va_rf, (pf_X1_init_8 cI rr LL fp n_79 i k fp1 n_94 j k2 fp2 hm hf hn_79 ek hk hf1 c_9 hn_94 ek2 hk2 hf2 c_10)]
              rw [hz9]
              refine lv_iload_n hx hb dX1_init_106 rfl (lv_at hl 2 rfl) ?_
              refine lv_iconst (v := (-1)) hx hb dX1_init_107 (by decide) ?_
              have hmm := hm i (pf_X1_init_10 cI rr LL fp n_79 i k fp1 n_94 j k2 fp2 hm hf hn_79 ek hk hf1 c_9 hn_94 ek2 hk2 hf2 c_10)
              obtain ⟨k9, hk9⟩ := va_pl_get (X := [(h1, .inr (1, [.ref q_1, .ref q_2, .ref q_3, .ref q_4, .ref q_5, .ref q_6, .ref q_7, .ref q_8, .int 0])), (q_1, .inl (cI, 10, .inl (fun _ => (0 : Int32)))), (q_2, .inl (cI, 10, .inl (fun _ => (0 : Int32)))), (q_3, .inl (cI, 10, .inl (fun _ => (0 : Int32)))), (q_4, .inl (cI, 10, .inl (fun _ => (0 : Int32)))), (q_5, .inl (cI, 10, .inl (fun _ => (0 : Int32)))), (q_6, .inl (cI, 10, .inl (upd pd k.toNatClampNeg (-1)))), (q_7, .inl (cQ, 10, .inr (.inr (.inr (.inr (fun i => if i < 10 then some (rr i) else none)))))), (q_8, .inl (cI, 10, .inl (fun _ => (0 : Int32))))]) (f := fp2) hmm
              obtain ⟨gr_12, hgr_12⟩ := hf2 _ hmm
              have hk8 := hk9
              rw [hgr_12] at hk8
              refine va_iast hx hb hK hP hD hS k9 0 hk8 rfl (pf_X1_init_9 cI rr LL fp n_79 i k fp1 n_94 j k2 fp2 hm hf hn_79 ek hk hf1 c_9 hn_94 ek2 hk2 hf2 c_10) dX1_init_108 (fun H locs hP1 hD1 hS => ?_)
              rw [va_pl_set hD hmm hk9] at hP1 hD1
              have hP := hP1
              have hD := hD1
              obtain ⟨v_13, ev_13⟩ : ∃ y : Int32, y = k2 + 1 := ⟨_, rfl⟩
              refine lv_iinc (v := v_13) (lv' := [(2, .int v_13), (0, .ref h1), (1, .int k)]) hx hb dX1_init_109 hl (k := 2) rfl (by rw [ev_13]; rfl) (by decide) rfl (fun ls hl => ?_)
              refine lv_goto (tgt := 94) hx hb dX1_init_112 (by decide) ?_
              exact hOut _ _ _ _ _ (ih_94 (j + 1) v_13 (va_up fp2 (rr i) (.inl (cI, 10, .inl (upd gr_12 k2.toNatClampNeg (-1))))) _ _ _ (pf_X1_init_11 cI rr LL fp n_79 i k fp1 n_94 j k2 fp2 v_13 hm hf hn_79 ek hk hf1 c_9 hn_94 ek2 hk2 hf2 c_10 ev_13) (pf_X1_init_12 cI rr LL fp n_79 i k fp1 n_94 j k2 fp2 v_13 hm hf hn_79 ek hk hf1 c_9 hn_94 ek2 hk2 hf2 c_10 ev_13) (pf_X1_init_13 cI rr LL fp n_79 i k fp1 n_94 j k2 fp2 v_13 hm hf hn_79 ek hk hf1 c_9 hn_94 ek2 hk2 hf2 c_10 ev_13) (pf_X1_init_14 cI rr LL fp n_79 i k fp1 n_94 j k2 fp2 gr_12 v_13 hm hf hn_79 ek hk hf1 c_9 hn_94 ek2 hk2 hf2 c_10 ev_13) hP hD hS (lv_sub hl [1, 2, 0] rfl))
        exact hOut _ _ _ _ _ (lp_94 (10 - 0 + 1) 0 0 fp1 _ _ _ (Nat.lt_succ_self _) (pf_X1_init_15 cI rr LL fp n_79 i k fp1 hm hf hn_79 ek hk hf1 c_9) (pf_X1_init_16 cI rr LL fp n_79 i k fp1 hm hf hn_79 ek hk hf1 c_9) (pf_X1_init_17 cI rr LL fp n_79 i k fp1 hm hf hn_79 ek hk hf1 c_9) hP hD hS (lv_sub hl [1, 2, 0] rfl))
  exact hOut _ _ _ _ _ (lp_79 (10 - 0 + 1) 0 0 (fun _ => (0 : Int32)) fp _ _ _ (Nat.lt_succ_self _) (pf_X1_init_18 cI rr LL fp hm hf) (pf_X1_init_19 cI rr LL fp hm hf) (pf_X1_init_20 cI rr LL fp hm hf) hP hD hS (lv_sub hl [1, 0] rfl))
