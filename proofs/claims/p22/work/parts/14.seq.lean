theorem iw_X2_init_2 : ∀ w ∈ wsX20, w ∈ wsX2_init := fun w h => (List.mem_cons_of_mem _ (List.mem_append_right _ h))
theorem wd_X2_init_1 : (.methodLink RX2 3 objectInit : Cond) ∈ wsX2_init := List.mem_of_getElem? (i := 1) rfl
theorem wd_X2_init_2 : (.instanceMethod objectInit : Cond) ∈ wsX2_init := List.mem_of_getElem? (i := 2) rfl
theorem wd_X2_init_3 : (.code objectInit ⟨#[0xb1]⟩ 1 none : Cond) ∈ wsX2_init := List.mem_of_getElem? (i := 3) rfl
theorem wd_X2_init_4 : (.arrayClass .int : Cond) ∈ wsX2_init := List.mem_of_getElem? (i := 4) rfl
theorem wd_X2_init_5 : (.fieldLink RX2 9 "PourPlan$Sequence" "row" "[I" : Cond) ∈ wsX2_init := List.mem_of_getElem? (i := 5) rfl
theorem wd_X2_init_6 : (.fieldLink RX2 15 "PourPlan$Sequence" "length" "I" : Cond) ∈ wsX2_init := List.mem_of_getElem? (i := 6) rfl
set_option maxHeartbeats 4000000 in
set_option maxRecDepth 100000 in
theorem c_X2_init (l : Launch) (D : va_G) (cI cQ : ClassId) (sz : Nat) (h2 : Nat) : CtV l yX2_init wsX2_init 1 12 1 10 [.ref h2] D [(cI, .int), (cQ, .array .int)] [(h2, .inr (2, [.null, .int 0]))] sz (fun (u : Nat × (Nat → Int32)) => True) (fun (u : Nat × (Nat → Int32)) => [(h2, .inr (2, [.ref u.1, .int 0])), (u.1, .inl (cI, 10, .inl u.2))]) := by
  refine Met.ofW (cc := cX2_init) (maxL := 1) (ret := none) (by decide) rfl ?_
  intro p e s m args below meth c s₁ B hml hv
  obtain ⟨rfl, hsz, hP, hK, hD0, hN⟩ := hv
  have hx := B.exec
  have hb := B.bytes
  have hr := B.returns
  have hts := atoms_spec (ws := wsX2_init) B.pre
  have hown : s.vm.findClass RX2 = some m.cls := findClass_of_methodNamed B.named
  have hlocks := B.notSynchronized
  have hin : meth.name = "<init>" := (name_of_methodNamed B.named B.method).1
  subst hsz
  have hD := hD0.self (sz := s.heap.size)
  generalize hAe : va_A [(h2, .inr (2, [.null, .int 0]))] s.heap.size = A at hD ⊢
  have hA : ∀ q : Nat, s.heap.size ≤ q → A q := fun q h => by rw [← hAe]; exact Or.inr h
  have hS : va_S A s.heap s.heap [] := va_S.rf
  have hl := lv_entry ([.ref h2]) (n := 1) (Nat.le_of_ble_eq_true rfl)
  rw [lg_entry_eq]
  generalize (lg_sl ([.ref h2]) ++ List.replicate (1 - (lg_sl ([.ref h2])).length) Slot.unset).toArray = ls at hl ⊢
  have hl : lv_has ls 1 [(0, .ref h2)] := hl
  have hP0 := hP
  refine lv_aload_n hx hb dX2_init_0 rfl (lv_at hl 0 rfl) ?_
  refine W.objInit hx hb hown (hts _ wd_X2_init_1) (hts _ wd_X2_init_2) (hts _ wd_X2_init_3) rfl (by rw [hml]; exact hl.1) rfl dX2_init_1 (Nat.le_of_ble_eq_true rfl) (Nat.le_of_ble_eq_true rfl) ?_
  refine W.eq (g2 := F0 m 4 ls []) rfl ?_
  refine lv_aload_n hx hb dX2_init_4 rfl (lv_at hl 0 rfl) ?_
  refine lv_bipush (v := 10) hx hb dX2_init_5 (by decide) ?_
  refine va_newa (atype := .int) (a0 := (10, .inl (fun _ => (0 : Int32)))) (N' := 10) hx hb (hts _ wd_X2_init_4) rfl hK hP hD hS hA (fun _ => rfl) (by decide) (by decide) (by decide) (Nat.le_of_ble_eq_true rfl) (Nat.le_of_ble_eq_true rfl) dX2_init_7 (fun q_1 cA H hK hP hD hS => ?_)
  have ecA := (cA_is (t0 := 0) (t1 := 2) hK rfl rfl).symm
  subst ecA
  have hK := hK.sub (tys' := [(cI, .int), (cQ, .array .int)]) [0, 1] rfl
  have hP : va_P D vwCl [(h2, .inr (2, [.null, .int 0])), (q_1, .inl (cI, 10, .inl (fun _ => (0 : Int32))))] H := hP
  have hD : va_D A [(h2, .inr (2, [.null, .int 0])), (q_1, .inl (cI, 10, .inl (fun _ => (0 : Int32))))] := hD
  refine W.widen (k := 1) (n := 10) (Nat.le_of_ble_eq_true rfl) (Nat.le_of_ble_eq_true rfl) ?_
  refine va_putF (D := D) (ci := 2) (v := .ref q_1) (ty := .array .int) (C := RX2) (T := TX2) (N := 2) hx hb hts iw_X2_init_2 tyX2 tyX2_ok nmX2 hown hK hP hD hS 0 rfl rfl 0 (by decide) (hts _ wd_X2_init_5) (fun _ h9 => h9) rfl hin rfl (by decide +kernel) rfl rfl (Nat.le_of_ble_eq_true rfl) dX2_init_9 (fun H locs hP hD hS => ?_)
  have hP : va_P D vwCl [(h2, .inr (2, [.ref q_1, .int 0])), (q_1, .inl (cI, 10, .inl (fun _ => (0 : Int32))))] H := hP
  have hD : va_D A [(h2, .inr (2, [.ref q_1, .int 0])), (q_1, .inl (cI, 10, .inl (fun _ => (0 : Int32))))] := hD
  refine lv_aload_n hx hb dX2_init_12 rfl (lv_at hl 0 rfl) ?_
  refine lv_iconst (v := 0) hx hb dX2_init_13 (by decide) ?_
  refine va_put (D := D) (ci := 2) (v := .int 0) (ty := .int) (C := RX2) (T := TX2) (N := 2) hx hb hts iw_X2_init_2 tyX2 tyX2_ok nmX2 hown hK hP hD hS 0 rfl rfl 1 (by decide) (hts _ wd_X2_init_6) (fun _ h9 => h9) rfl (by decide +kernel) rfl rfl (Nat.le_of_ble_eq_true rfl) dX2_init_14 (fun H locs hP hD hS => ?_)
  have hP : va_P D vwCl [(h2, .inr (2, [.ref q_1, .int 0])), (q_1, .inl (cI, 10, .inl (fun _ => (0 : Int32))))] H := hP
  have hD : va_D A [(h2, .inr (2, [.ref q_1, .int 0])), (q_1, .inl (cI, 10, .inl (fun _ => (0 : Int32))))] := hD
  refine W.widen (k := 1) (n := 10) (Nat.le_of_ble_eq_true rfl) (Nat.le_of_ble_eq_true rfl) ?_
  exact fi_v (q_1, fun _ => (0 : Int32)) hx hb hr hlocks hK (hP.sub [0, 1] rfl) (hD.sub [0, 1] (by decide) rfl) hS trivial dX2_init_17

theorem iw_X2_append_2 : ∀ w ∈ wsX20, w ∈ wsX2_append := fun w h => (List.mem_cons_of_mem _ (List.mem_append_right _ h))
theorem wd_X2_append_1 : (.fieldLink RX2 15 "PourPlan$Sequence" "length" "I" : Cond) ∈ wsX2_append := List.mem_of_getElem? (i := 1) rfl
theorem wd_X2_append_2 : (.fieldLink RX2 9 "PourPlan$Sequence" "row" "[I" : Cond) ∈ wsX2_append := List.mem_of_getElem? (i := 2) rfl
set_option maxHeartbeats 1000000 in
theorem pf_X2_append_1 (ln : Int32) (hl0 : 0 ≤ ln) (c_1 : 10 ≤ ln) : ln = (if 10 ≤ ln then ln else ln + 1) := by
  grind
set_option maxHeartbeats 1000000 in
theorem pf_X2_append_2 (ln : Int32) (f : Nat → Int32) (a : Int32) (hl0 : 0 ≤ ln) (c_1 : 10 ≤ ln) : f = (if 10 ≤ ln then f else upd f ln.toNatClampNeg a) := by
  grind
set_option maxHeartbeats 1000000 in
theorem pf_X2_append_3 (ln : Int32) (hl0 : 0 ≤ ln) (c_1 : ¬ 10 ≤ ln) : vp_in ln 10 := by
  exact vi_in (M := 10) rfl (by grind) (by grind)
set_option maxHeartbeats 1000000 in
theorem pf_X2_append_4 (ln : Int32) (v_2 : Int32) (hl0 : 0 ≤ ln) (c_1 : ¬ 10 ≤ ln) (ev_2 : v_2 = ln + 1) : v_2 = (if 10 ≤ ln then ln else ln + 1) := by
  grind
set_option maxHeartbeats 1000000 in
theorem pf_X2_append_5 (ln : Int32) (f : Nat → Int32) (a : Int32) (v_2 : Int32) (hl0 : 0 ≤ ln) (c_1 : ¬ 10 ≤ ln) (ev_2 : v_2 = ln + 1) : (upd f ln.toNatClampNeg a) = (if 10 ≤ ln then f else upd f ln.toNatClampNeg a) := by
  grind
set_option maxHeartbeats 4000000 in
set_option maxRecDepth 100000 in
theorem c_X2_append (l : Launch) (D : va_G) (cI cQ : ClassId) (sz : Nat) (h2 : Nat) (s0 : Nat) (ln : Int32) (f : Nat → Int32) (a : Int32) (hl0 : 0 ≤ ln) : CtV l yX2_append wsX2_append 0 0 0 0 [.ref h2, .int a] D [(cI, .int), (cQ, .array .int)] [(h2, .inr (2, [.ref s0, .int ln])), (s0, .inl (cI, 10, .inl f))] sz (fun (u : Int32 × (Nat → Int32)) => u.1 = (if 10 ≤ ln then ln else ln + 1) ∧ u.2 = (if 10 ≤ ln then f else upd f ln.toNatClampNeg a)) (fun (u : Int32 × (Nat → Int32)) => [(h2, .inr (2, [.ref s0, .int u.1])), (s0, .inl (cI, 10, .inl u.2))]) := by
  refine Met.ofW (cc := cX2_append) (maxL := 2) (ret := none) (by decide) rfl ?_
  intro p e s m args below meth c s₁ B hml hv
  obtain ⟨rfl, hsz, hP, hK, hD0, hN⟩ := hv
  have hx := B.exec
  have hb := B.bytes
  have hr := B.returns
  have hts := atoms_spec (ws := wsX2_append) B.pre
  have hown : s.vm.findClass RX2 = some m.cls := findClass_of_methodNamed B.named
  have hlocks := B.notSynchronized
  subst hsz
  have hD := hD0.self (sz := s.heap.size)
  generalize hAe : va_A [(h2, .inr (2, [.ref s0, .int ln])), (s0, .inl (cI, 10, .inl f))] s.heap.size = A at hD ⊢
  have hA : ∀ q : Nat, s.heap.size ≤ q → A q := fun q h => by rw [← hAe]; exact Or.inr h
  have hS : va_S A s.heap s.heap [] := va_S.rf
  have hl := lv_entry ([.ref h2, .int a]) (n := 2) (Nat.le_of_ble_eq_true rfl)
  rw [lg_entry_eq]
  generalize (lg_sl ([.ref h2, .int a]) ++ List.replicate (2 - (lg_sl ([.ref h2, .int a])).length) Slot.unset).toArray = ls at hl ⊢
  have hl : lv_has ls 2 [(0, .ref h2), (1, .int a)] := hl
  have hP0 := hP
  refine lv_aload_n hx hb dX2_append_0 rfl (lv_at hl 0 rfl) ?_
  refine va_get (D := D) (ci := 2) (v := .int ln) (C := RX2) (T := TX2) (N := 2) hx hb hts iw_X2_append_2 hown hK hP 0 rfl rfl 1 (by decide) (hts _ wd_X2_append_1) (fun _ h9 => h9) rfl dX2_append_1 ?_
  refine lv_bipush (v := 10) hx hb dX2_append_4 (by decide) ?_
  refine lv_icmp_ge (tgt := 29) hx hb dX2_append_6 (by decide) (fun c_1 => ?_) (fun c_1 => ?_)
  · refine W.widen (k := 0) (n := 0) (Nat.le_of_ble_eq_true rfl) (Nat.le_of_ble_eq_true rfl) ?_
    exact fi_v (ln, f) hx hb hr hlocks hK (hP.sub [0, 1] rfl) (hD.sub [0, 1] (by decide) rfl) hS ⟨(pf_X2_append_1 ln hl0 c_1), (pf_X2_append_2 ln f a hl0 c_1)⟩ dX2_append_29
  · refine lv_aload_n hx hb dX2_append_9 rfl (lv_at hl 0 rfl) ?_
    refine va_get (D := D) (ci := 2) (v := .ref s0) (C := RX2) (T := TX2) (N := 2) hx hb hts iw_X2_append_2 hown hK hP 0 rfl rfl 0 (by decide) (hts _ wd_X2_append_2) (fun _ h9 => h9) rfl dX2_append_10 ?_
    refine lv_aload_n hx hb dX2_append_13 rfl (lv_at hl 0 rfl) ?_
    refine va_get (D := D) (ci := 2) (v := .int ln) (C := RX2) (T := TX2) (N := 2) hx hb hts iw_X2_append_2 hown hK hP 0 rfl rfl 1 (by decide) (hts _ wd_X2_append_1) (fun _ h9 => h9) rfl dX2_append_14 ?_
    refine lv_iload_n hx hb dX2_append_17 rfl (lv_at hl 1 rfl) ?_
    refine va_iast hx hb hK hP hD hS 1 0 rfl rfl (pf_X2_append_3 ln hl0 c_1) dX2_append_18 (fun H locs hP hD hS => ?_)
    have hP : va_P D vwCl [(h2, .inr (2, [.ref s0, .int ln])), (s0, .inl (cI, 10, .inl (upd f ln.toNatClampNeg a)))] H := hP
    have hD : va_D A [(h2, .inr (2, [.ref s0, .int ln])), (s0, .inl (cI, 10, .inl (upd f ln.toNatClampNeg a)))] := hD
    refine lv_aload_n hx hb dX2_append_19 rfl (lv_at hl 0 rfl) ?_
    refine lv_dup hx hb dX2_append_20 rfl ?_
    refine va_get (D := D) (ci := 2) (v := .int ln) (C := RX2) (T := TX2) (N := 2) hx hb hts iw_X2_append_2 hown hK hP 0 rfl rfl 1 (by decide) (hts _ wd_X2_append_1) (fun _ h9 => h9) rfl dX2_append_21 ?_
    refine lv_iconst (v := 1) hx hb dX2_append_24 (by decide) ?_
    refine lv_iadd hx hb dX2_append_25 ?_
    refine lv_topi (fun v_2 ev_2 => ?_)
    refine va_put (D := D) (ci := 2) (v := .int v_2) (ty := .int) (C := RX2) (T := TX2) (N := 2) hx hb hts iw_X2_append_2 tyX2 tyX2_ok nmX2 hown hK hP hD hS 0 rfl rfl 1 (by decide) (hts _ wd_X2_append_1) (fun _ h9 => h9) rfl (by decide +kernel) rfl rfl (Nat.le_of_ble_eq_true rfl) dX2_append_26 (fun H locs hP hD hS => ?_)
    have hP : va_P D vwCl [(h2, .inr (2, [.ref s0, .int v_2])), (s0, .inl (cI, 10, .inl (upd f ln.toNatClampNeg a)))] H := hP
    have hD : va_D A [(h2, .inr (2, [.ref s0, .int v_2])), (s0, .inl (cI, 10, .inl (upd f ln.toNatClampNeg a)))] := hD
    refine W.widen (k := 0) (n := 0) (Nat.le_of_ble_eq_true rfl) (Nat.le_of_ble_eq_true rfl) ?_
    exact fi_v (v_2, upd f ln.toNatClampNeg a) hx hb hr hlocks hK (hP.sub [0, 1] rfl) (hD.sub [0, 1] (by decide) rfl) hS ⟨(pf_X2_append_4 ln v_2 hl0 c_1 ev_2), (pf_X2_append_5 ln f a v_2 hl0 c_1 ev_2)⟩ dX2_append_29

theorem iw_X2_placeOf_2 : ∀ w ∈ wsX20, w ∈ wsX2_placeOf := fun w h => (List.mem_cons_of_mem _ (List.mem_append_right _ h))
theorem wd_X2_placeOf_1 : (.fieldLink RX2 15 "PourPlan$Sequence" "length" "I" : Cond) ∈ wsX2_placeOf := List.mem_of_getElem? (i := 1) rfl
theorem wd_X2_placeOf_2 : (.fieldLink RX2 9 "PourPlan$Sequence" "row" "[I" : Cond) ∈ wsX2_placeOf := List.mem_of_getElem? (i := 2) rfl
set_option maxHeartbeats 1000000 in
theorem pf_X2_placeOf_1 (ln : Int32) (f : Nat → Int32) (a : Int32) (n_2 : Nat) (k : Int32) (hl0 : 0 ≤ ln) (hl1 : ln ≤ 10) (hn_2 : 10 - k.toNatClampNeg < n_2 + 1) (h0k : 0 ≤ k) (hk : k ≤ ln) (hal : ∀ j : Nat, j < k.toNatClampNeg → f j ≠ a) (c_1 : ln ≤ k) : ((-1 : Int32) = -1 ∨ (0 ≤ (-1 : Int32) ∧ (-1 : Int32) < ln)) := by
  grind
set_option maxHeartbeats 1000000 in
theorem pf_X2_placeOf_2 (ln : Int32) (f : Nat → Int32) (a : Int32) (n_2 : Nat) (k : Int32) (hl0 : 0 ≤ ln) (hl1 : ln ≤ 10) (hn_2 : 10 - k.toNatClampNeg < n_2 + 1) (h0k : 0 ≤ k) (hk : k ≤ ln) (hal : ∀ j : Nat, j < k.toNatClampNeg → f j ≠ a) (c_1 : ln ≤ k) : (-1 : Int32) = plc f a ln.toNatClampNeg := by
  first
  | exact (plc_f h0k (by grind) hl1 (by grind) hal).symm
  | exact (plc_n (k := k) (by grind) hal).symm
set_option maxHeartbeats 1000000 in
theorem pf_X2_placeOf_3 (ln : Int32) (f : Nat → Int32) (a : Int32) (n_2 : Nat) (k : Int32) (hl0 : 0 ≤ ln) (hl1 : ln ≤ 10) (hn_2 : 10 - k.toNatClampNeg < n_2 + 1) (h0k : 0 ≤ k) (hk : k ≤ ln) (hal : ∀ j : Nat, j < k.toNatClampNeg → f j ≠ a) (c_1 : ¬ ln ≤ k) : vp_in k 10 := by
  exact vi_in (M := 10) rfl (by grind) (by grind)
set_option maxHeartbeats 1000000 in
theorem pf_X2_placeOf_4 (ln : Int32) (f : Nat → Int32) (a : Int32) (n_2 : Nat) (k : Int32) (v_2 : Int32) (v_4 : Int32) (hl0 : 0 ≤ ln) (hl1 : ln ≤ 10) (hn_2 : 10 - k.toNatClampNeg < n_2 + 1) (h0k : 0 ≤ k) (hk : k ≤ ln) (hal : ∀ j : Nat, j < k.toNatClampNeg → f j ≠ a) (c_1 : ¬ ln ≤ k) (ev_2 : v_2 = f k.toNatClampNeg) (c_3 : ¬ v_2 = a) (ev_4 : v_4 = k + 1) : 10 - v_4.toNatClampNeg < n_2 := by
  exact ms_dec (L := 10) (k := k) (by grind) (show ¬ (10 : Int32) ≤ k by grind) (by omega) (by assumption) hn_2
set_option maxHeartbeats 1000000 in
theorem pf_X2_placeOf_5 (ln : Int32) (f : Nat → Int32) (a : Int32) (n_2 : Nat) (k : Int32) (v_2 : Int32) (v_4 : Int32) (hl0 : 0 ≤ ln) (hl1 : ln ≤ 10) (hn_2 : 10 - k.toNatClampNeg < n_2 + 1) (h0k : 0 ≤ k) (hk : k ≤ ln) (hal : ∀ j : Nat, j < k.toNatClampNeg → f j ≠ a) (c_1 : ¬ ln ≤ k) (ev_2 : v_2 = f k.toNatClampNeg) (c_3 : ¬ v_2 = a) (ev_4 : v_4 = k + 1) : 0 ≤ v_4 := by
  grind
set_option maxHeartbeats 1000000 in
theorem pf_X2_placeOf_6 (ln : Int32) (f : Nat → Int32) (a : Int32) (n_2 : Nat) (k : Int32) (v_2 : Int32) (v_4 : Int32) (hl0 : 0 ≤ ln) (hl1 : ln ≤ 10) (hn_2 : 10 - k.toNatClampNeg < n_2 + 1) (h0k : 0 ≤ k) (hk : k ≤ ln) (hal : ∀ j : Nat, j < k.toNatClampNeg → f j ≠ a) (c_1 : ¬ ln ≤ k) (ev_2 : v_2 = f k.toNatClampNeg) (c_3 : ¬ v_2 = a) (ev_4 : v_4 = k + 1) : v_4 ≤ ln := by
  grind
set_option maxHeartbeats 1000000 in
theorem pf_X2_placeOf_7 (ln : Int32) (f : Nat → Int32) (a : Int32) (n_2 : Nat) (k : Int32) (v_2 : Int32) (v_4 : Int32) (hl0 : 0 ≤ ln) (hl1 : ln ≤ 10) (hn_2 : 10 - k.toNatClampNeg < n_2 + 1) (h0k : 0 ≤ k) (hk : k ≤ ln) (hal : ∀ j : Nat, j < k.toNatClampNeg → f j ≠ a) (c_1 : ¬ ln ≤ k) (ev_2 : v_2 = f k.toNatClampNeg) (c_3 : ¬ v_2 = a) (ev_4 : v_4 = k + 1) : ∀ j : Nat, j < v_4.toNatClampNeg → f j ≠ a := by
  exact find_s (k := k) h0k (by grind) (by assumption) hal (by grind)
set_option maxHeartbeats 1000000 in
theorem pf_X2_placeOf_8 (ln : Int32) (f : Nat → Int32) (a : Int32) (n_2 : Nat) (k : Int32) (v_2 : Int32) (hl0 : 0 ≤ ln) (hl1 : ln ≤ 10) (hn_2 : 10 - k.toNatClampNeg < n_2 + 1) (h0k : 0 ≤ k) (hk : k ≤ ln) (hal : ∀ j : Nat, j < k.toNatClampNeg → f j ≠ a) (c_1 : ¬ ln ≤ k) (ev_2 : v_2 = f k.toNatClampNeg) (c_3 : v_2 = a) : (k = -1 ∨ (0 ≤ k ∧ k < ln)) := by
  grind
set_option maxHeartbeats 1000000 in
theorem pf_X2_placeOf_9 (ln : Int32) (f : Nat → Int32) (a : Int32) (n_2 : Nat) (k : Int32) (v_2 : Int32) (hl0 : 0 ≤ ln) (hl1 : ln ≤ 10) (hn_2 : 10 - k.toNatClampNeg < n_2 + 1) (h0k : 0 ≤ k) (hk : k ≤ ln) (hal : ∀ j : Nat, j < k.toNatClampNeg → f j ≠ a) (c_1 : ¬ ln ≤ k) (ev_2 : v_2 = f k.toNatClampNeg) (c_3 : v_2 = a) : k = plc f a ln.toNatClampNeg := by
  first
  | exact (plc_f h0k (by grind) hl1 (by grind) hal).symm
  | exact (plc_n (k := k) (by grind) hal).symm
set_option maxHeartbeats 1000000 in
theorem pf_X2_placeOf_10 (ln : Int32) (hl0 : 0 ≤ ln) (hl1 : ln ≤ 10) : 0 ≤ (0 : Int32) := by
  grind
set_option maxHeartbeats 1000000 in
theorem pf_X2_placeOf_11 (ln : Int32) (hl0 : 0 ≤ ln) (hl1 : ln ≤ 10) : (0 : Int32) ≤ ln := by
  grind
set_option maxHeartbeats 1000000 in
theorem pf_X2_placeOf_12 (ln : Int32) (f : Nat → Int32) (a : Int32) (hl0 : 0 ≤ ln) (hl1 : ln ≤ 10) : ∀ j : Nat, j < (0 : Int32).toNatClampNeg → f j ≠ a := by
  intro j hj
  exact absurd hj (by simp)
set_option maxHeartbeats 4000000 in
set_option maxRecDepth 100000 in
theorem c_X2_placeOf (l : Launch) (D : va_G) (cI cQ : ClassId) (sz : Nat) (h2 : Nat) (s0 : Nat) (ln : Int32) (f : Nat → Int32) (a : Int32) (hl0 : 0 ≤ ln) (hl1 : ln ≤ 10) : CtI l yX2_placeOf wsX2_placeOf 0 0 0 0 [.ref h2, .int a] D [(cI, .int), (cQ, .array .int)] [(h2, .inr (2, [.ref s0, .int ln])), (s0, .inl (cI, 10, .inl f))] sz (fun (r : Int32) (u : Unit) => (r = -1 ∨ (0 ≤ r ∧ r < ln)) ∧ r = plc f a ln.toNatClampNeg) (fun (u : Unit) => [(h2, .inr (2, [.ref s0, .int ln])), (s0, .inl (cI, 10, .inl f))]) := by
  refine Met.ofW (cc := cX2_placeOf) (maxL := 3) (ret := (some .int)) (by decide) rfl ?_
  intro p e s m args below meth c s₁ B hml hv
  obtain ⟨rfl, hsz, hP, hK, hD0, hN⟩ := hv
  have hx := B.exec
  have hb := B.bytes
  have hr := B.returns
  have hts := atoms_spec (ws := wsX2_placeOf) B.pre
  have hown : s.vm.findClass RX2 = some m.cls := findClass_of_methodNamed B.named
  have hlocks := B.notSynchronized
  subst hsz
  have hD := hD0.self (sz := s.heap.size)
  generalize hAe : va_A [(h2, .inr (2, [.ref s0, .int ln])), (s0, .inl (cI, 10, .inl f))] s.heap.size = A at hD ⊢
  have hA : ∀ q : Nat, s.heap.size ≤ q → A q := fun q h => by rw [← hAe]; exact Or.inr h
  have hS : va_S A s.heap s.heap [] := va_S.rf
  have hl := lv_entry ([.ref h2, .int a]) (n := 3) (Nat.le_of_ble_eq_true rfl)
  rw [lg_entry_eq]
  generalize (lg_sl ([.ref h2, .int a]) ++ List.replicate (3 - (lg_sl ([.ref h2, .int a])).length) Slot.unset).toArray = ls at hl ⊢
  have hl : lv_has ls 3 [(0, .ref h2), (1, .int a)] := hl
  refine W_gen (fun GW hIn hOut => ?_)
  refine hIn _ _ _ _ _ ?_
  have hP0 := hP
  refine lv_iconst (v := 0) hx hb dX2_placeOf_0 (by decide) ?_
  refine lv_istore_n (lv' := [(2, .int 0), (0, .ref h2), (1, .int a)]) hx hb dX2_placeOf_1 rfl hl (by decide) rfl (fun ls hl => ?_)
  have lp_2 : ∀ (n : Nat) (k : Int32) (H : Heap) (locs : List Loc) (ls : Array Slot), 10 - k.toNatClampNeg < n → (0 ≤ k) → (k ≤ ln) → (∀ j : Nat, j < k.toNatClampNeg → f j ≠ a) → va_P D vwCl [(h2, .inr (2, [.ref s0, .int ln])), (s0, .inl (cI, 10, .inl f))] H → va_D A [(h2, .inr (2, [.ref s0, .int ln])), (s0, .inl (cI, 10, .inl f))] → va_S A s.heap H locs → lv_has ls 3 [(0, .ref h2), (1, .int a), (2, .int k)] → GW H locs 0 0 (F0 m 2 ls []) := by
    intro n_2
    induction n_2 with
    | zero => intro k H locs ls hn_2; exact absurd hn_2 (Nat.not_lt_zero _)
    | succ n_2 ih_2 =>
      intro k H locs ls hn_2 h0k hk hal hP hD hS hl
      refine hIn _ _ _ _ _ ?_
      refine lv_iload_n hx hb dX2_placeOf_2 rfl (lv_at hl 2 rfl) ?_
      refine lv_aload_n hx hb dX2_placeOf_3 rfl (lv_at hl 0 rfl) ?_
      refine va_get (D := D) (ci := 2) (v := .int ln) (C := RX2) (T := TX2) (N := 2) hx hb hts iw_X2_placeOf_2 hown hK hP 0 rfl rfl 1 (by decide) (hts _ wd_X2_placeOf_1) (fun _ h9 => h9) rfl dX2_placeOf_4 ?_
      refine lv_icmp_ge (tgt := 28) hx hb dX2_placeOf_7 (by decide) (fun c_1 => ?_) (fun c_1 => ?_)
      · refine lv_iconst (v := (-1)) hx hb dX2_placeOf_28 (by decide) ?_
        refine W.widen (k := 0) (n := 0) (Nat.le_of_ble_eq_true rfl) (Nat.le_of_ble_eq_true rfl) ?_
        exact fi_i () hx hb hr hlocks hK (hP.sub [0, 1] rfl) (hD.sub [0, 1] (by decide) rfl) hS ⟨(pf_X2_placeOf_1 ln f a n_2 k hl0 hl1 hn_2 h0k hk hal c_1), (pf_X2_placeOf_2 ln f a n_2 k hl0 hl1 hn_2 h0k hk hal c_1)⟩ dX2_placeOf_29
      · refine lv_aload_n hx hb dX2_placeOf_10 rfl (lv_at hl 0 rfl) ?_
        refine va_get (D := D) (ci := 2) (v := .ref s0) (C := RX2) (T := TX2) (N := 2) hx hb hts iw_X2_placeOf_2 hown hK hP 0 rfl rfl 0 (by decide) (hts _ wd_X2_placeOf_2) (fun _ h9 => h9) rfl dX2_placeOf_11 ?_
        refine lv_iload_n hx hb dX2_placeOf_14 rfl (lv_at hl 2 rfl) ?_
        refine va_iald hx hb hK hP 1 0 rfl rfl (pf_X2_placeOf_3 ln f a n_2 k hl0 hl1 hn_2 h0k hk hal c_1) dX2_placeOf_15 ?_
        refine lv_topi (fun v_2 ev_2 => ?_)
        refine lv_iload_n hx hb dX2_placeOf_16 rfl (lv_at hl 1 rfl) ?_
        refine lv_icmp_ne (tgt := 22) hx hb dX2_placeOf_17 (by decide) (fun c_3 => ?_) (fun c_3 => ?_)
        · obtain ⟨v_4, ev_4⟩ : ∃ y : Int32, y = k + 1 := ⟨_, rfl⟩
          refine lv_iinc (v := v_4) (lv' := [(2, .int v_4), (0, .ref h2), (1, .int a)]) hx hb dX2_placeOf_22 hl (k := 2) rfl (by rw [ev_4]; rfl) (by decide) rfl (fun ls hl => ?_)
          refine lv_goto (tgt := 2) hx hb dX2_placeOf_25 (by decide) ?_
          exact hOut _ _ _ _ _ (ih_2 v_4 _ _ _ (pf_X2_placeOf_4 ln f a n_2 k v_2 v_4 hl0 hl1 hn_2 h0k hk hal c_1 ev_2 c_3 ev_4) (pf_X2_placeOf_5 ln f a n_2 k v_2 v_4 hl0 hl1 hn_2 h0k hk hal c_1 ev_2 c_3 ev_4) (pf_X2_placeOf_6 ln f a n_2 k v_2 v_4 hl0 hl1 hn_2 h0k hk hal c_1 ev_2 c_3 ev_4) (pf_X2_placeOf_7 ln f a n_2 k v_2 v_4 hl0 hl1 hn_2 h0k hk hal c_1 ev_2 c_3 ev_4) (hP.sub [0, 1] rfl) (hD.sub [0, 1] (by decide) rfl) hS (lv_sub hl [1, 2, 0] rfl))
        · refine lv_iload_n hx hb dX2_placeOf_20 rfl (lv_at hl 2 rfl) ?_
          refine W.widen (k := 0) (n := 0) (Nat.le_of_ble_eq_true rfl) (Nat.le_of_ble_eq_true rfl) ?_
          exact fi_i () hx hb hr hlocks hK (hP.sub [0, 1] rfl) (hD.sub [0, 1] (by decide) rfl) hS ⟨(pf_X2_placeOf_8 ln f a n_2 k v_2 hl0 hl1 hn_2 h0k hk hal c_1 ev_2 c_3), (pf_X2_placeOf_9 ln f a n_2 k v_2 hl0 hl1 hn_2 h0k hk hal c_1 ev_2 c_3)⟩ dX2_placeOf_21
  exact hOut _ _ _ _ _ (lp_2 (10 - (0 : Int32).toNatClampNeg + 1) 0 _ _ _ (Nat.lt_succ_self _) (pf_X2_placeOf_10 ln hl0 hl1) (pf_X2_placeOf_11 ln hl0 hl1) (pf_X2_placeOf_12 ln f a hl0 hl1) (hP.sub [0, 1] rfl) (hD.sub [0, 1] (by decide) rfl) hS (lv_sub hl [1, 2, 0] rfl))

theorem iw_X2_isPlace_2 : ∀ w ∈ wsX20, w ∈ wsX2_isPlace := fun w h => (List.mem_cons_of_mem _ (List.mem_append_right _ h))
theorem wd_X2_isPlace_1 : (.fieldLink RX2 15 "PourPlan$Sequence" "length" "I" : Cond) ∈ wsX2_isPlace := List.mem_of_getElem? (i := 1) rfl
set_option maxHeartbeats 1000000 in
theorem pf_X2_isPlace_1 (ln : Int32) (i1 : Int32) (c_1 : i1 < 0) : (0 : Int32) = bPl i1 ln := by
  grind [bPl]
set_option maxHeartbeats 1000000 in
theorem pf_X2_isPlace_2 (ln : Int32) (i1 : Int32) (c_1 : ¬ i1 < 0) (c_2 : ln ≤ i1) : (0 : Int32) = bPl i1 ln := by
  grind [bPl]
set_option maxHeartbeats 1000000 in
theorem pf_X2_isPlace_3 (ln : Int32) (i1 : Int32) (c_1 : ¬ i1 < 0) (c_2 : ¬ ln ≤ i1) : (1 : Int32) = bPl i1 ln := by
  grind [bPl]
set_option maxHeartbeats 4000000 in
set_option maxRecDepth 100000 in
theorem c_X2_isPlace (l : Launch) (D : va_G) (cI cQ : ClassId) (sz : Nat) (h2 : Nat) (s0 : Nat) (ln : Int32) (i1 : Int32) : CtI l yX2_isPlace wsX2_isPlace 0 0 0 0 [.ref h2, .int i1] D [(cI, .int), (cQ, .array .int)] [(h2, .inr (2, [.ref s0, .int ln]))] sz (fun (r : Int32) (u : Unit) => r = bPl i1 ln) (fun (u : Unit) => [(h2, .inr (2, [.ref s0, .int ln]))]) := by
  refine Met.ofW (cc := cX2_isPlace) (maxL := 2) (ret := (some .boolean)) (by decide) rfl ?_
  intro p e s m args below meth c s₁ B hml hv
  obtain ⟨rfl, hsz, hP, hK, hD0, hN⟩ := hv
  have hx := B.exec
  have hb := B.bytes
  have hr := B.returns
  have hts := atoms_spec (ws := wsX2_isPlace) B.pre
  have hown : s.vm.findClass RX2 = some m.cls := findClass_of_methodNamed B.named
  have hlocks := B.notSynchronized
  subst hsz
  have hD := hD0.self (sz := s.heap.size)
  generalize hAe : va_A [(h2, .inr (2, [.ref s0, .int ln]))] s.heap.size = A at hD ⊢
  have hA : ∀ q : Nat, s.heap.size ≤ q → A q := fun q h => by rw [← hAe]; exact Or.inr h
  have hS : va_S A s.heap s.heap [] := va_S.rf
  have hl := lv_entry ([.ref h2, .int i1]) (n := 2) (Nat.le_of_ble_eq_true rfl)
  rw [lg_entry_eq]
  generalize (lg_sl ([.ref h2, .int i1]) ++ List.replicate (2 - (lg_sl ([.ref h2, .int i1])).length) Slot.unset).toArray = ls at hl ⊢
  have hl : lv_has ls 2 [(0, .ref h2), (1, .int i1)] := hl
  have hP0 := hP
  refine lv_iload_n hx hb dX2_isPlace_0 rfl (lv_at hl 1 rfl) ?_
  refine lv_if_lt (tgt := 16) hx hb dX2_isPlace_1 (by decide) (fun c_1 => ?_) (fun c_1 => ?_)
  · refine lv_iconst (v := 0) hx hb dX2_isPlace_16 (by decide) ?_
    refine W.widen (k := 0) (n := 0) (Nat.le_of_ble_eq_true rfl) (Nat.le_of_ble_eq_true rfl) ?_
    exact fi_z () hx hb hr rfl hlocks hK (hP.sub [0] rfl) (hD.sub [0] (by decide) rfl) hS (pf_X2_isPlace_1 ln i1 c_1) dX2_isPlace_17
  · refine lv_iload_n hx hb dX2_isPlace_4 rfl (lv_at hl 1 rfl) ?_
    refine lv_aload_n hx hb dX2_isPlace_5 rfl (lv_at hl 0 rfl) ?_
    refine va_get (D := D) (ci := 2) (v := .int ln) (C := RX2) (T := TX2) (N := 2) hx hb hts iw_X2_isPlace_2 hown hK hP 0 rfl rfl 1 (by decide) (hts _ wd_X2_isPlace_1) (fun _ h9 => h9) rfl dX2_isPlace_6 ?_
    refine lv_icmp_ge (tgt := 16) hx hb dX2_isPlace_9 (by decide) (fun c_2 => ?_) (fun c_2 => ?_)
    · refine lv_iconst (v := 0) hx hb dX2_isPlace_16 (by decide) ?_
      refine W.widen (k := 0) (n := 0) (Nat.le_of_ble_eq_true rfl) (Nat.le_of_ble_eq_true rfl) ?_
      exact fi_z () hx hb hr rfl hlocks hK (hP.sub [0] rfl) (hD.sub [0] (by decide) rfl) hS (pf_X2_isPlace_2 ln i1 c_1 c_2) dX2_isPlace_17
    · refine lv_iconst (v := 1) hx hb dX2_isPlace_12 (by decide) ?_
      refine lv_goto (tgt := 17) hx hb dX2_isPlace_13 (by decide) ?_
      refine W.widen (k := 0) (n := 0) (Nat.le_of_ble_eq_true rfl) (Nat.le_of_ble_eq_true rfl) ?_
      exact fi_z () hx hb hr rfl hlocks hK (hP.sub [0] rfl) (hD.sub [0] (by decide) rfl) hS (pf_X2_isPlace_3 ln i1 c_1 c_2) dX2_isPlace_17

theorem iw_X2_swap_2 : ∀ w ∈ wsX20, w ∈ wsX2_swap := fun w h => (List.mem_cons_of_mem _ (List.mem_append_right _ h))
theorem wd_X2_swap_1 : (.fieldLink RX2 9 "PourPlan$Sequence" "row" "[I" : Cond) ∈ wsX2_swap := List.mem_of_getElem? (i := 1) rfl
set_option maxHeartbeats 1000000 in
theorem pf_X2_swap_1 (i1 : Int32) (j1 : Int32) (hi : vp_in i1 10) (hj : vp_in j1 10) : vp_in i1 10 := by
  exact hi
set_option maxHeartbeats 1000000 in
theorem pf_X2_swap_2 (f : Nat → Int32) (i1 : Int32) (j1 : Int32) (v_1 : Int32) (hi : vp_in i1 10) (hj : vp_in j1 10) (ev_1 : v_1 = f i1.toNatClampNeg) : vp_in j1 10 := by
  exact hj
set_option maxHeartbeats 1000000 in
theorem pf_X2_swap_3 (f : Nat → Int32) (i1 : Int32) (j1 : Int32) (v_1 : Int32) (v_2 : Int32) (hi : vp_in i1 10) (hj : vp_in j1 10) (ev_1 : v_1 = f i1.toNatClampNeg) (ev_2 : v_2 = f j1.toNatClampNeg) : vp_in i1 10 := by
  exact hi
set_option maxHeartbeats 1000000 in
theorem pf_X2_swap_4 (f : Nat → Int32) (i1 : Int32) (j1 : Int32) (v_1 : Int32) (v_2 : Int32) (hi : vp_in i1 10) (hj : vp_in j1 10) (ev_1 : v_1 = f i1.toNatClampNeg) (ev_2 : v_2 = f j1.toNatClampNeg) : vp_in j1 10 := by
  exact hj
set_option maxHeartbeats 1000000 in
theorem pf_X2_swap_5 (f : Nat → Int32) (i1 : Int32) (j1 : Int32) (v_1 : Int32) (v_2 : Int32) (hi : vp_in i1 10) (hj : vp_in j1 10) (ev_1 : v_1 = f i1.toNatClampNeg) (ev_2 : v_2 = f j1.toNatClampNeg) : (upd (upd f i1.toNatClampNeg v_2) j1.toNatClampNeg v_1) = upd (upd f i1.toNatClampNeg (f j1.toNatClampNeg)) j1.toNatClampNeg (f i1.toNatClampNeg) := by
  subst_vars
  rfl
set_option maxHeartbeats 4000000 in
set_option maxRecDepth 100000 in
theorem c_X2_swap (l : Launch) (D : va_G) (cI cQ : ClassId) (sz : Nat) (h2 : Nat) (s0 : Nat) (ln : Int32) (f : Nat → Int32) (i1 : Int32) (j1 : Int32) (hi : vp_in i1 10) (hj : vp_in j1 10) : CtV l yX2_swap wsX2_swap 0 0 0 0 [.ref h2, .int i1, .int j1] D [(cI, .int), (cQ, .array .int)] [(h2, .inr (2, [.ref s0, .int ln])), (s0, .inl (cI, 10, .inl f))] sz (fun (u : (Nat → Int32)) => u = upd (upd f i1.toNatClampNeg (f j1.toNatClampNeg)) j1.toNatClampNeg (f i1.toNatClampNeg)) (fun (u : (Nat → Int32)) => [(h2, .inr (2, [.ref s0, .int ln])), (s0, .inl (cI, 10, .inl u))]) := by
  refine Met.ofW (cc := cX2_swap) (maxL := 4) (ret := none) (by decide) rfl ?_
  intro p e s m args below meth c s₁ B hml hv
  obtain ⟨rfl, hsz, hP, hK, hD0, hN⟩ := hv
  have hx := B.exec
  have hb := B.bytes
  have hr := B.returns
  have hts := atoms_spec (ws := wsX2_swap) B.pre
  have hown : s.vm.findClass RX2 = some m.cls := findClass_of_methodNamed B.named
  have hlocks := B.notSynchronized
  subst hsz
  have hD := hD0.self (sz := s.heap.size)
  generalize hAe : va_A [(h2, .inr (2, [.ref s0, .int ln])), (s0, .inl (cI, 10, .inl f))] s.heap.size = A at hD ⊢
  have hA : ∀ q : Nat, s.heap.size ≤ q → A q := fun q h => by rw [← hAe]; exact Or.inr h
  have hS : va_S A s.heap s.heap [] := va_S.rf
  have hl := lv_entry ([.ref h2, .int i1, .int j1]) (n := 4) (Nat.le_of_ble_eq_true rfl)
  rw [lg_entry_eq]
  generalize (lg_sl ([.ref h2, .int i1, .int j1]) ++ List.replicate (4 - (lg_sl ([.ref h2, .int i1, .int j1])).length) Slot.unset).toArray = ls at hl ⊢
  have hl : lv_has ls 4 [(0, .ref h2), (1, .int i1), (2, .int j1)] := hl
  have hP0 := hP
  refine lv_aload_n hx hb dX2_swap_0 rfl (lv_at hl 0 rfl) ?_
  refine va_get (D := D) (ci := 2) (v := .ref s0) (C := RX2) (T := TX2) (N := 2) hx hb hts iw_X2_swap_2 hown hK hP 0 rfl rfl 0 (by decide) (hts _ wd_X2_swap_1) (fun _ h9 => h9) rfl dX2_swap_1 ?_
  refine lv_iload_n hx hb dX2_swap_4 rfl (lv_at hl 1 rfl) ?_
  refine va_iald hx hb hK hP 1 0 rfl rfl (pf_X2_swap_1 i1 j1 hi hj) dX2_swap_5 ?_
  refine lv_topi (fun v_1 ev_1 => ?_)
  refine lv_istore_n (lv' := [(3, .int v_1), (0, .ref h2), (1, .int i1), (2, .int j1)]) hx hb dX2_swap_6 rfl hl (by decide) rfl (fun ls hl => ?_)
  refine lv_aload_n hx hb dX2_swap_7 rfl (lv_at hl 1 rfl) ?_
  refine va_get (D := D) (ci := 2) (v := .ref s0) (C := RX2) (T := TX2) (N := 2) hx hb hts iw_X2_swap_2 hown hK hP 0 rfl rfl 0 (by decide) (hts _ wd_X2_swap_1) (fun _ h9 => h9) rfl dX2_swap_8 ?_
  refine lv_iload_n hx hb dX2_swap_11 rfl (lv_at hl 2 rfl) ?_
  refine lv_aload_n hx hb dX2_swap_12 rfl (lv_at hl 1 rfl) ?_
  refine va_get (D := D) (ci := 2) (v := .ref s0) (C := RX2) (T := TX2) (N := 2) hx hb hts iw_X2_swap_2 hown hK hP 0 rfl rfl 0 (by decide) (hts _ wd_X2_swap_1) (fun _ h9 => h9) rfl dX2_swap_13 ?_
  refine lv_iload_n hx hb dX2_swap_16 rfl (lv_at hl 3 rfl) ?_
  refine va_iald hx hb hK hP 1 0 rfl rfl (pf_X2_swap_2 f i1 j1 v_1 hi hj ev_1) dX2_swap_17 ?_
  refine lv_topi (fun v_2 ev_2 => ?_)
  refine va_iast hx hb hK hP hD hS 1 0 rfl rfl (pf_X2_swap_3 f i1 j1 v_1 v_2 hi hj ev_1 ev_2) dX2_swap_18 (fun H locs hP hD hS => ?_)
  have hP : va_P D vwCl [(h2, .inr (2, [.ref s0, .int ln])), (s0, .inl (cI, 10, .inl (upd f i1.toNatClampNeg v_2)))] H := hP
  have hD : va_D A [(h2, .inr (2, [.ref s0, .int ln])), (s0, .inl (cI, 10, .inl (upd f i1.toNatClampNeg v_2)))] := hD
  refine lv_aload_n hx hb dX2_swap_19 rfl (lv_at hl 1 rfl) ?_
  refine va_get (D := D) (ci := 2) (v := .ref s0) (C := RX2) (T := TX2) (N := 2) hx hb hts iw_X2_swap_2 hown hK hP 0 rfl rfl 0 (by decide) (hts _ wd_X2_swap_1) (fun _ h9 => h9) rfl dX2_swap_20 ?_
  refine lv_iload_n hx hb dX2_swap_23 rfl (lv_at hl 3 rfl) ?_
  refine lv_iload_n hx hb dX2_swap_24 rfl (lv_at hl 0 rfl) ?_
  refine va_iast hx hb hK hP hD hS 1 0 rfl rfl (pf_X2_swap_4 f i1 j1 v_1 v_2 hi hj ev_1 ev_2) dX2_swap_25 (fun H locs hP hD hS => ?_)
  have hP : va_P D vwCl [(h2, .inr (2, [.ref s0, .int ln])), (s0, .inl (cI, 10, .inl (upd (upd f i1.toNatClampNeg v_2) j1.toNatClampNeg v_1)))] H := hP
  have hD : va_D A [(h2, .inr (2, [.ref s0, .int ln])), (s0, .inl (cI, 10, .inl (upd (upd f i1.toNatClampNeg v_2) j1.toNatClampNeg v_1)))] := hD
  refine W.widen (k := 0) (n := 0) (Nat.le_of_ble_eq_true rfl) (Nat.le_of_ble_eq_true rfl) ?_
  exact fi_v (upd (upd f i1.toNatClampNeg v_2) j1.toNatClampNeg v_1) hx hb hr hlocks hK (hP.sub [0, 1] rfl) (hD.sub [0, 1] (by decide) rfl) hS (pf_X2_swap_5 f i1 j1 v_1 v_2 hi hj ev_1 ev_2) dX2_swap_26

theorem iw_X2_sort_2 : ∀ w ∈ wsX20, w ∈ wsX2_sort := fun w h => (List.mem_cons_of_mem _ (List.mem_append_right _ h))
theorem wd_X2_sort_1 : (.fieldLink RX2 15 "PourPlan$Sequence" "length" "I" : Cond) ∈ wsX2_sort := List.mem_of_getElem? (i := 1) rfl
theorem wd_X2_sort_2 : (.fieldLink RX2 9 "PourPlan$Sequence" "row" "[I" : Cond) ∈ wsX2_sort := List.mem_of_getElem? (i := 2) rfl
set_option maxHeartbeats 1000000 in
theorem pf_X2_sort_1 (ln : Int32) (n_2 : Nat) (k : Int32) (ff : Nat → Int32) (hl0 : 0 ≤ ln) (hl1 : ln ≤ 10) (hn_2 : 10 - k.toNatClampNeg < n_2 + 1) (h0k : 0 ≤ k) (hk1 : k ≤ ln) (hso : ∀ i : Nat, i < k.toNatClampNeg → 0 ≤ ff i ∧ ff i < ln) (hsi : ∀ i : Nat, i < k.toNatClampNeg → ff i = nI i) (c_1 : ln ≤ k) : okRow ff ln := by
  intro i hi
  have e9 : k = ln := by grind
  subst e9
  exact hso i hi
set_option maxHeartbeats 1000000 in
theorem pf_X2_sort_2 (ln : Int32) (n_2 : Nat) (k : Int32) (ff : Nat → Int32) (hl0 : 0 ≤ ln) (hl1 : ln ≤ 10) (hn_2 : 10 - k.toNatClampNeg < n_2 + 1) (h0k : 0 ≤ k) (hk1 : k ≤ ln) (hso : ∀ i : Nat, i < k.toNatClampNeg → 0 ≤ ff i ∧ ff i < ln) (hsi : ∀ i : Nat, i < k.toNatClampNeg → ff i = nI i) (c_1 : ln ≤ k) : (∀ i : Nat, i < ln.toNatClampNeg → ff i = nI i) := by
  intro i hi
  have e9 : k = ln := by grind
  subst e9
  exact hsi i hi
set_option maxHeartbeats 1000000 in
theorem pf_X2_sort_3 (ln : Int32) (n_2 : Nat) (k : Int32) (ff : Nat → Int32) (hl0 : 0 ≤ ln) (hl1 : ln ≤ 10) (hn_2 : 10 - k.toNatClampNeg < n_2 + 1) (h0k : 0 ≤ k) (hk1 : k ≤ ln) (hso : ∀ i : Nat, i < k.toNatClampNeg → 0 ≤ ff i ∧ ff i < ln) (hsi : ∀ i : Nat, i < k.toNatClampNeg → ff i = nI i) (c_1 : ¬ ln ≤ k) : vp_in k 10 := by
  exact vi_in (M := 10) rfl (by grind) (by grind)
set_option maxHeartbeats 1000000 in
theorem pf_X2_sort_4 (ln : Int32) (n_2 : Nat) (k : Int32) (ff : Nat → Int32) (v_2 : Int32) (hl0 : 0 ≤ ln) (hl1 : ln ≤ 10) (hn_2 : 10 - k.toNatClampNeg < n_2 + 1) (h0k : 0 ≤ k) (hk1 : k ≤ ln) (hso : ∀ i : Nat, i < k.toNatClampNeg → 0 ≤ ff i ∧ ff i < ln) (hsi : ∀ i : Nat, i < k.toNatClampNeg → ff i = nI i) (c_1 : ¬ ln ≤ k) (ev_2 : v_2 = k + 1) : 10 - v_2.toNatClampNeg < n_2 := by
  exact ms_dec (L := 10) (k := k) (by grind) (show ¬ (10 : Int32) ≤ k by grind) (by omega) (by assumption) hn_2
set_option maxHeartbeats 1000000 in
theorem pf_X2_sort_5 (ln : Int32) (n_2 : Nat) (k : Int32) (ff : Nat → Int32) (v_2 : Int32) (hl0 : 0 ≤ ln) (hl1 : ln ≤ 10) (hn_2 : 10 - k.toNatClampNeg < n_2 + 1) (h0k : 0 ≤ k) (hk1 : k ≤ ln) (hso : ∀ i : Nat, i < k.toNatClampNeg → 0 ≤ ff i ∧ ff i < ln) (hsi : ∀ i : Nat, i < k.toNatClampNeg → ff i = nI i) (c_1 : ¬ ln ≤ k) (ev_2 : v_2 = k + 1) : 0 ≤ v_2 := by
  grind
set_option maxHeartbeats 1000000 in
theorem pf_X2_sort_6 (ln : Int32) (n_2 : Nat) (k : Int32) (ff : Nat → Int32) (v_2 : Int32) (hl0 : 0 ≤ ln) (hl1 : ln ≤ 10) (hn_2 : 10 - k.toNatClampNeg < n_2 + 1) (h0k : 0 ≤ k) (hk1 : k ≤ ln) (hso : ∀ i : Nat, i < k.toNatClampNeg → 0 ≤ ff i ∧ ff i < ln) (hsi : ∀ i : Nat, i < k.toNatClampNeg → ff i = nI i) (c_1 : ¬ ln ≤ k) (ev_2 : v_2 = k + 1) : v_2 ≤ ln := by
  grind
set_option maxHeartbeats 1000000 in
theorem pf_X2_sort_7 (ln : Int32) (n_2 : Nat) (k : Int32) (ff : Nat → Int32) (v_2 : Int32) (hl0 : 0 ≤ ln) (hl1 : ln ≤ 10) (hn_2 : 10 - k.toNatClampNeg < n_2 + 1) (h0k : 0 ≤ k) (hk1 : k ≤ ln) (hso : ∀ i : Nat, i < k.toNatClampNeg → 0 ≤ ff i ∧ ff i < ln) (hsi : ∀ i : Nat, i < k.toNatClampNeg → ff i = nI i) (c_1 : ¬ ln ≤ k) (ev_2 : v_2 = k + 1) : ∀ i : Nat, i < v_2.toNatClampNeg → 0 ≤ (upd ff k.toNatClampNeg k) i ∧ (upd ff k.toNatClampNeg k) i < ln := by
  intro i hi
  subst_vars
  rw [cl_s h0k (by grind)] at hi
  unfold upd
  split
  · constructor <;> grind
  · exact hso i (by omega)
set_option maxHeartbeats 1000000 in
theorem pf_X2_sort_8 (ln : Int32) (n_2 : Nat) (k : Int32) (ff : Nat → Int32) (v_2 : Int32) (hl0 : 0 ≤ ln) (hl1 : ln ≤ 10) (hn_2 : 10 - k.toNatClampNeg < n_2 + 1) (h0k : 0 ≤ k) (hk1 : k ≤ ln) (hso : ∀ i : Nat, i < k.toNatClampNeg → 0 ≤ ff i ∧ ff i < ln) (hsi : ∀ i : Nat, i < k.toNatClampNeg → ff i = nI i) (c_1 : ¬ ln ≤ k) (ev_2 : v_2 = k + 1) : ∀ i : Nat, i < v_2.toNatClampNeg → (upd ff k.toNatClampNeg k) i = nI i := by
  intro i hi
  subst_vars
  rw [cl_s h0k (by grind)] at hi
  unfold upd
  split
  · rename_i e9
    rw [e9]
    exact cl_nI k h0k
  · exact hsi i (by omega)
set_option maxHeartbeats 1000000 in
theorem pf_X2_sort_9 (ln : Int32) (hl0 : 0 ≤ ln) (hl1 : ln ≤ 10) : 0 ≤ (0 : Int32) := by
  grind
set_option maxHeartbeats 1000000 in
theorem pf_X2_sort_10 (ln : Int32) (hl0 : 0 ≤ ln) (hl1 : ln ≤ 10) : (0 : Int32) ≤ ln := by
  grind
set_option maxHeartbeats 1000000 in
theorem pf_X2_sort_11 (ln : Int32) (f : Nat → Int32) (hl0 : 0 ≤ ln) (hl1 : ln ≤ 10) : ∀ i : Nat, i < (0 : Int32).toNatClampNeg → 0 ≤ f i ∧ f i < ln := by
  intro i hi
  exact absurd hi (by simp)
set_option maxHeartbeats 1000000 in
theorem pf_X2_sort_12 (ln : Int32) (f : Nat → Int32) (hl0 : 0 ≤ ln) (hl1 : ln ≤ 10) : ∀ i : Nat, i < (0 : Int32).toNatClampNeg → f i = nI i := by
  intro i hi
  exact absurd hi (by simp)
set_option maxHeartbeats 4000000 in
set_option maxRecDepth 100000 in
theorem c_X2_sort (l : Launch) (D : va_G) (cI cQ : ClassId) (sz : Nat) (h2 : Nat) (s0 : Nat) (ln : Int32) (f : Nat → Int32) (hl0 : 0 ≤ ln) (hl1 : ln ≤ 10) : CtV l yX2_sort wsX2_sort 0 0 0 0 [.ref h2] D [(cI, .int), (cQ, .array .int)] [(h2, .inr (2, [.ref s0, .int ln])), (s0, .inl (cI, 10, .inl f))] sz (fun (u : (Nat → Int32)) => okRow u ln ∧ (∀ i : Nat, i < ln.toNatClampNeg → u i = nI i)) (fun (u : (Nat → Int32)) => [(h2, .inr (2, [.ref s0, .int ln])), (s0, .inl (cI, 10, .inl u))]) := by
  refine Met.ofW (cc := cX2_sort) (maxL := 2) (ret := none) (by decide) rfl ?_
  intro p e s m args below meth c s₁ B hml hv
  obtain ⟨rfl, hsz, hP, hK, hD0, hN⟩ := hv
  have hx := B.exec
  have hb := B.bytes
  have hr := B.returns
  have hts := atoms_spec (ws := wsX2_sort) B.pre
  have hown : s.vm.findClass RX2 = some m.cls := findClass_of_methodNamed B.named
  have hlocks := B.notSynchronized
  subst hsz
  have hD := hD0.self (sz := s.heap.size)
  generalize hAe : va_A [(h2, .inr (2, [.ref s0, .int ln])), (s0, .inl (cI, 10, .inl f))] s.heap.size = A at hD ⊢
  have hA : ∀ q : Nat, s.heap.size ≤ q → A q := fun q h => by rw [← hAe]; exact Or.inr h
  have hS : va_S A s.heap s.heap [] := va_S.rf
  have hl := lv_entry ([.ref h2]) (n := 2) (Nat.le_of_ble_eq_true rfl)
  rw [lg_entry_eq]
  generalize (lg_sl ([.ref h2]) ++ List.replicate (2 - (lg_sl ([.ref h2])).length) Slot.unset).toArray = ls at hl ⊢
  have hl : lv_has ls 2 [(0, .ref h2)] := hl
  refine W_gen (fun GW hIn hOut => ?_)
  refine hIn _ _ _ _ _ ?_
  have hP0 := hP
  refine lv_iconst (v := 0) hx hb dX2_sort_0 (by decide) ?_
  refine lv_istore_n (lv' := [(1, .int 0), (0, .ref h2)]) hx hb dX2_sort_1 rfl hl (by decide) rfl (fun ls hl => ?_)
  have lp_2 : ∀ (n : Nat) (k : Int32) (ff : Nat → Int32) (H : Heap) (locs : List Loc) (ls : Array Slot), 10 - k.toNatClampNeg < n → (0 ≤ k) → (k ≤ ln) → (∀ i : Nat, i < k.toNatClampNeg → 0 ≤ ff i ∧ ff i < ln) → (∀ i : Nat, i < k.toNatClampNeg → ff i = nI i) → va_P D vwCl [(h2, .inr (2, [.ref s0, .int ln])), (s0, .inl (cI, 10, .inl ff))] H → va_D A [(h2, .inr (2, [.ref s0, .int ln])), (s0, .inl (cI, 10, .inl ff))] → va_S A s.heap H locs → lv_has ls 2 [(0, .ref h2), (1, .int k)] → GW H locs 0 0 (F0 m 2 ls []) := by
    intro n_2
    induction n_2 with
    | zero => intro k ff H locs ls hn_2; exact absurd hn_2 (Nat.not_lt_zero _)
    | succ n_2 ih_2 =>
      intro k ff H locs ls hn_2 h0k hk1 hso hsi hP hD hS hl
      refine hIn _ _ _ _ _ ?_
      refine lv_iload_n hx hb dX2_sort_2 rfl (lv_at hl 1 rfl) ?_
      refine lv_aload_n hx hb dX2_sort_3 rfl (lv_at hl 0 rfl) ?_
      refine va_get (D := D) (ci := 2) (v := .int ln) (C := RX2) (T := TX2) (N := 2) hx hb hts iw_X2_sort_2 hown hK hP 0 rfl rfl 1 (by decide) (hts _ wd_X2_sort_1) (fun _ h9 => h9) rfl dX2_sort_4 ?_
      refine lv_icmp_ge (tgt := 23) hx hb dX2_sort_7 (by decide) (fun c_1 => ?_) (fun c_1 => ?_)
      · refine W.widen (k := 0) (n := 0) (Nat.le_of_ble_eq_true rfl) (Nat.le_of_ble_eq_true rfl) ?_
        exact fi_v ff hx hb hr hlocks hK (hP.sub [0, 1] rfl) (hD.sub [0, 1] (by decide) rfl) hS ⟨(pf_X2_sort_1 ln n_2 k ff hl0 hl1 hn_2 h0k hk1 hso hsi c_1), (pf_X2_sort_2 ln n_2 k ff hl0 hl1 hn_2 h0k hk1 hso hsi c_1)⟩ dX2_sort_23
      · refine lv_aload_n hx hb dX2_sort_10 rfl (lv_at hl 0 rfl) ?_
        refine va_get (D := D) (ci := 2) (v := .ref s0) (C := RX2) (T := TX2) (N := 2) hx hb hts iw_X2_sort_2 hown hK hP 0 rfl rfl 0 (by decide) (hts _ wd_X2_sort_2) (fun _ h9 => h9) rfl dX2_sort_11 ?_
        refine lv_iload_n hx hb dX2_sort_14 rfl (lv_at hl 1 rfl) ?_
        refine lv_iload_n hx hb dX2_sort_15 rfl (lv_at hl 1 rfl) ?_
        refine va_iast hx hb hK hP hD hS 1 0 rfl rfl (pf_X2_sort_3 ln n_2 k ff hl0 hl1 hn_2 h0k hk1 hso hsi c_1) dX2_sort_16 (fun H locs hP hD hS => ?_)
        have hP : va_P D vwCl [(h2, .inr (2, [.ref s0, .int ln])), (s0, .inl (cI, 10, .inl (upd ff k.toNatClampNeg k)))] H := hP
        have hD : va_D A [(h2, .inr (2, [.ref s0, .int ln])), (s0, .inl (cI, 10, .inl (upd ff k.toNatClampNeg k)))] := hD
        obtain ⟨v_2, ev_2⟩ : ∃ y : Int32, y = k + 1 := ⟨_, rfl⟩
        refine lv_iinc (v := v_2) (lv' := [(1, .int v_2), (0, .ref h2)]) hx hb dX2_sort_17 hl (k := 1) rfl (by rw [ev_2]; rfl) (by decide) rfl (fun ls hl => ?_)
        refine lv_goto (tgt := 2) hx hb dX2_sort_20 (by decide) ?_
        exact hOut _ _ _ _ _ (ih_2 v_2 (upd ff k.toNatClampNeg k) _ _ _ (pf_X2_sort_4 ln n_2 k ff v_2 hl0 hl1 hn_2 h0k hk1 hso hsi c_1 ev_2) (pf_X2_sort_5 ln n_2 k ff v_2 hl0 hl1 hn_2 h0k hk1 hso hsi c_1 ev_2) (pf_X2_sort_6 ln n_2 k ff v_2 hl0 hl1 hn_2 h0k hk1 hso hsi c_1 ev_2) (pf_X2_sort_7 ln n_2 k ff v_2 hl0 hl1 hn_2 h0k hk1 hso hsi c_1 ev_2) (pf_X2_sort_8 ln n_2 k ff v_2 hl0 hl1 hn_2 h0k hk1 hso hsi c_1 ev_2) (hP.sub [0, 1] rfl) (hD.sub [0, 1] (by decide) rfl) hS (lv_sub hl [1, 0] rfl))
  exact hOut _ _ _ _ _ (lp_2 (10 - (0 : Int32).toNatClampNeg + 1) 0 f _ _ _ (Nat.lt_succ_self _) (pf_X2_sort_9 ln hl0 hl1) (pf_X2_sort_10 ln hl0 hl1) (pf_X2_sort_11 ln f hl0 hl1) (pf_X2_sort_12 ln f hl0 hl1) (hP.sub [0, 1] rfl) (hD.sub [0, 1] (by decide) rfl) hS (lv_sub hl [1, 0] rfl))

theorem iw_X2_move_2 : ∀ w ∈ wsX20, w ∈ wsX2_move := fun w h => (List.mem_cons_of_mem _ (List.mem_append_right _ h))
theorem wd_X2_move_1 : (.fieldLink RX2 9 "PourPlan$Sequence" "row" "[I" : Cond) ∈ wsX2_move := List.mem_of_getElem? (i := 1) rfl
set_option maxHeartbeats 1000000 in
theorem pf_X2_move_1 (ln : Int32) (f : Nat → Int32) (fr : Int32) (r_1 : Int32) (hl0 : 0 ≤ ln) (hl1 : ln ≤ 10) (hr0 : okRow f ln) (w_2 : r_1 = bPl fr ln) (c_4 : r_1 = 0) : okRow f ln := by
  first
  | (grind [bPl])
  | (first
     | exact hr0
     | exact okRow_upd hrb (by grind) (by grind))
set_option maxHeartbeats 1000000 in
theorem pf_X2_move_2 (ln : Int32) (f : Nat → Int32) (fr : Int32) (to : Int32) (r_1 : Int32) (hl0 : 0 ≤ ln) (hl1 : ln ≤ 10) (hr0 : okRow f ln) (w_2 : r_1 = bPl fr ln) (c_4 : r_1 = 0) : (0 ≤ fr ∧ fr < ln ∧ 0 ≤ to ∧ to < ln → f = mv f fr.toNatClampNeg to.toNatClampNeg) := by
  first
  | (intro h9
     exact absurd h9 (by grind [bPl]))
  | (intro h9
     exact mv_end hfr hto (by assumption) hfa hk2 hto2 (by assumption) hfb (by assumption))
set_option maxHeartbeats 1000000 in
theorem pf_X2_move_3 (ln : Int32) (f : Nat → Int32) (fr : Int32) (to : Int32) (r_1 : Int32) (r_5 : Int32) (hl0 : 0 ≤ ln) (hl1 : ln ≤ 10) (hr0 : okRow f ln) (w_2 : r_1 = bPl fr ln) (c_4 : ¬ r_1 = 0) (w_6 : r_5 = bPl to ln) (c_8 : ¬ r_5 = 0) : vp_in fr 10 := by
  exact vi_in (M := 10) rfl (by grind [bPl]) (by grind [bPl])
set_option maxHeartbeats 1000000 in
theorem pf_X2_move_4 (ln : Int32) (f : Nat → Int32) (fr : Int32) (to : Int32) (r_1 : Int32) (r_5 : Int32) (v_9 : Int32) (hl0 : 0 ≤ ln) (hl1 : ln ≤ 10) (hr0 : okRow f ln) (w_2 : r_1 = bPl fr ln) (c_4 : ¬ r_1 = 0) (w_6 : r_5 = bPl to ln) (c_8 : ¬ r_5 = 0) (ev_9 : v_9 = f fr.toNatClampNeg) : 0 ≤ v_9 ∧ v_9 < ln := by
  have h9 := okRow_at hr0 (k := fr) (by grind [bPl]) (by grind [bPl])
  grind
set_option maxHeartbeats 1000000 in
theorem pf_X2_move_5 (ln : Int32) (f : Nat → Int32) (fr : Int32) (to : Int32) (r_1 : Int32) (r_5 : Int32) (v_9 : Int32) (n_27 : Nat) (k : Int32) (fa : Nat → Int32) (n_58 : Nat) (k2 : Int32) (fb : Nat → Int32) (hl0 : 0 ≤ ln) (hl1 : ln ≤ 10) (hr0 : okRow f ln) (w_2 : r_1 = bPl fr ln) (c_4 : ¬ r_1 = 0) (w_6 : r_5 = bPl to ln) (c_8 : ¬ r_5 = 0) (ev_9 : v_9 = f fr.toNatClampNeg) (fx_10 : 0 ≤ v_9 ∧ v_9 < ln) (hn_27 : 10 - k.toNatClampNeg < n_27 + 1) (h0k : 0 ≤ k) (hra : okRow fa ln) (hfr : fr ≤ k) (hto : k ≤ to ∨ k = fr) (hfa : fa = shL f fr.toNatClampNeg k.toNatClampNeg) (c_11 : to ≤ k) (hn_58 : k2.toNatClampNeg < n_58 + 1) (h1k : k2 < ln) (hrb : okRow fb ln) (hk2 : k2 ≤ fr) (hto2 : to ≤ k2 ∨ k2 = fr) (hfb : fb = shR fa k2.toNatClampNeg fr.toNatClampNeg) (c_12 : k2 ≤ to) : vp_in to 10 := by
  exact vi_in (M := 10) rfl (by grind [bPl]) (by grind [bPl])
set_option maxHeartbeats 1000000 in
theorem pf_X2_move_6 (ln : Int32) (f : Nat → Int32) (fr : Int32) (to : Int32) (r_1 : Int32) (r_5 : Int32) (v_9 : Int32) (n_27 : Nat) (k : Int32) (fa : Nat → Int32) (n_58 : Nat) (k2 : Int32) (fb : Nat → Int32) (hl0 : 0 ≤ ln) (hl1 : ln ≤ 10) (hr0 : okRow f ln) (w_2 : r_1 = bPl fr ln) (c_4 : ¬ r_1 = 0) (w_6 : r_5 = bPl to ln) (c_8 : ¬ r_5 = 0) (ev_9 : v_9 = f fr.toNatClampNeg) (fx_10 : 0 ≤ v_9 ∧ v_9 < ln) (hn_27 : 10 - k.toNatClampNeg < n_27 + 1) (h0k : 0 ≤ k) (hra : okRow fa ln) (hfr : fr ≤ k) (hto : k ≤ to ∨ k = fr) (hfa : fa = shL f fr.toNatClampNeg k.toNatClampNeg) (c_11 : to ≤ k) (hn_58 : k2.toNatClampNeg < n_58 + 1) (h1k : k2 < ln) (hrb : okRow fb ln) (hk2 : k2 ≤ fr) (hto2 : to ≤ k2 ∨ k2 = fr) (hfb : fb = shR fa k2.toNatClampNeg fr.toNatClampNeg) (c_12 : k2 ≤ to) : okRow (upd fb to.toNatClampNeg v_9) ln := by
  first
  | (grind [bPl])
  | (first
     | exact hr0
     | exact okRow_upd hrb (by grind) (by grind))
set_option maxHeartbeats 1000000 in
theorem pf_X2_move_7 (ln : Int32) (f : Nat → Int32) (fr : Int32) (to : Int32) (r_1 : Int32) (r_5 : Int32) (v_9 : Int32) (n_27 : Nat) (k : Int32) (fa : Nat → Int32) (n_58 : Nat) (k2 : Int32) (fb : Nat → Int32) (hl0 : 0 ≤ ln) (hl1 : ln ≤ 10) (hr0 : okRow f ln) (w_2 : r_1 = bPl fr ln) (c_4 : ¬ r_1 = 0) (w_6 : r_5 = bPl to ln) (c_8 : ¬ r_5 = 0) (ev_9 : v_9 = f fr.toNatClampNeg) (fx_10 : 0 ≤ v_9 ∧ v_9 < ln) (hn_27 : 10 - k.toNatClampNeg < n_27 + 1) (h0k : 0 ≤ k) (hra : okRow fa ln) (hfr : fr ≤ k) (hto : k ≤ to ∨ k = fr) (hfa : fa = shL f fr.toNatClampNeg k.toNatClampNeg) (c_11 : to ≤ k) (hn_58 : k2.toNatClampNeg < n_58 + 1) (h1k : k2 < ln) (hrb : okRow fb ln) (hk2 : k2 ≤ fr) (hto2 : to ≤ k2 ∨ k2 = fr) (hfb : fb = shR fa k2.toNatClampNeg fr.toNatClampNeg) (c_12 : k2 ≤ to) : (0 ≤ fr ∧ fr < ln ∧ 0 ≤ to ∧ to < ln → (upd fb to.toNatClampNeg v_9) = mv f fr.toNatClampNeg to.toNatClampNeg) := by
  first
  | (intro h9
     exact absurd h9 (by grind [bPl]))
  | (intro h9
     exact mv_end hfr hto (by assumption) hfa hk2 hto2 (by assumption) hfb (by assumption))
set_option maxHeartbeats 1000000 in
theorem pf_X2_move_8 (ln : Int32) (f : Nat → Int32) (fr : Int32) (to : Int32) (r_1 : Int32) (r_5 : Int32) (v_9 : Int32) (n_27 : Nat) (k : Int32) (fa : Nat → Int32) (n_58 : Nat) (k2 : Int32) (fb : Nat → Int32) (v_13 : Int32) (hl0 : 0 ≤ ln) (hl1 : ln ≤ 10) (hr0 : okRow f ln) (w_2 : r_1 = bPl fr ln) (c_4 : ¬ r_1 = 0) (w_6 : r_5 = bPl to ln) (c_8 : ¬ r_5 = 0) (ev_9 : v_9 = f fr.toNatClampNeg) (fx_10 : 0 ≤ v_9 ∧ v_9 < ln) (hn_27 : 10 - k.toNatClampNeg < n_27 + 1) (h0k : 0 ≤ k) (hra : okRow fa ln) (hfr : fr ≤ k) (hto : k ≤ to ∨ k = fr) (hfa : fa = shL f fr.toNatClampNeg k.toNatClampNeg) (c_11 : to ≤ k) (hn_58 : k2.toNatClampNeg < n_58 + 1) (h1k : k2 < ln) (hrb : okRow fb ln) (hk2 : k2 ≤ fr) (hto2 : to ≤ k2 ∨ k2 = fr) (hfb : fb = shR fa k2.toNatClampNeg fr.toNatClampNeg) (c_12 : ¬ k2 ≤ to) (ev_13 : v_13 = k2 - 1) : vp_in v_13 10 := by
  exact vi_in (M := 10) rfl (by grind [bPl]) (by grind [bPl])
set_option maxHeartbeats 1000000 in
theorem pf_X2_move_9 (ln : Int32) (f : Nat → Int32) (fr : Int32) (to : Int32) (r_1 : Int32) (r_5 : Int32) (v_9 : Int32) (n_27 : Nat) (k : Int32) (fa : Nat → Int32) (n_58 : Nat) (k2 : Int32) (fb : Nat → Int32) (v_13 : Int32) (v_14 : Int32) (hl0 : 0 ≤ ln) (hl1 : ln ≤ 10) (hr0 : okRow f ln) (w_2 : r_1 = bPl fr ln) (c_4 : ¬ r_1 = 0) (w_6 : r_5 = bPl to ln) (c_8 : ¬ r_5 = 0) (ev_9 : v_9 = f fr.toNatClampNeg) (fx_10 : 0 ≤ v_9 ∧ v_9 < ln) (hn_27 : 10 - k.toNatClampNeg < n_27 + 1) (h0k : 0 ≤ k) (hra : okRow fa ln) (hfr : fr ≤ k) (hto : k ≤ to ∨ k = fr) (hfa : fa = shL f fr.toNatClampNeg k.toNatClampNeg) (c_11 : to ≤ k) (hn_58 : k2.toNatClampNeg < n_58 + 1) (h1k : k2 < ln) (hrb : okRow fb ln) (hk2 : k2 ≤ fr) (hto2 : to ≤ k2 ∨ k2 = fr) (hfb : fb = shR fa k2.toNatClampNeg fr.toNatClampNeg) (c_12 : ¬ k2 ≤ to) (ev_13 : v_13 = k2 - 1) (ev_14 : v_14 = fb v_13.toNatClampNeg) : 0 ≤ v_14 ∧ v_14 < ln := by
  have h9 := okRow_at hrb (k := v_13) (by grind [bPl]) (by grind [bPl])
  grind
set_option maxHeartbeats 1000000 in
theorem pf_X2_move_10 (ln : Int32) (f : Nat → Int32) (fr : Int32) (to : Int32) (r_1 : Int32) (r_5 : Int32) (v_9 : Int32) (n_27 : Nat) (k : Int32) (fa : Nat → Int32) (n_58 : Nat) (k2 : Int32) (fb : Nat → Int32) (v_13 : Int32) (v_14 : Int32) (hl0 : 0 ≤ ln) (hl1 : ln ≤ 10) (hr0 : okRow f ln) (w_2 : r_1 = bPl fr ln) (c_4 : ¬ r_1 = 0) (w_6 : r_5 = bPl to ln) (c_8 : ¬ r_5 = 0) (ev_9 : v_9 = f fr.toNatClampNeg) (fx_10 : 0 ≤ v_9 ∧ v_9 < ln) (hn_27 : 10 - k.toNatClampNeg < n_27 + 1) (h0k : 0 ≤ k) (hra : okRow fa ln) (hfr : fr ≤ k) (hto : k ≤ to ∨ k = fr) (hfa : fa = shL f fr.toNatClampNeg k.toNatClampNeg) (c_11 : to ≤ k) (hn_58 : k2.toNatClampNeg < n_58 + 1) (h1k : k2 < ln) (hrb : okRow fb ln) (hk2 : k2 ≤ fr) (hto2 : to ≤ k2 ∨ k2 = fr) (hfb : fb = shR fa k2.toNatClampNeg fr.toNatClampNeg) (c_12 : ¬ k2 ≤ to) (ev_13 : v_13 = k2 - 1) (ev_14 : v_14 = fb v_13.toNatClampNeg) (fx_15 : 0 ≤ v_14 ∧ v_14 < ln) : vp_in k2 10 := by
  exact vi_in (M := 10) rfl (by grind [bPl]) (by grind [bPl])
set_option maxHeartbeats 1000000 in
theorem pf_X2_move_11 (ln : Int32) (f : Nat → Int32) (fr : Int32) (to : Int32) (r_1 : Int32) (r_5 : Int32) (v_9 : Int32) (n_27 : Nat) (k : Int32) (fa : Nat → Int32) (n_58 : Nat) (k2 : Int32) (fb : Nat → Int32) (v_13 : Int32) (v_14 : Int32) (v_16 : Int32) (hl0 : 0 ≤ ln) (hl1 : ln ≤ 10) (hr0 : okRow f ln) (w_2 : r_1 = bPl fr ln) (c_4 : ¬ r_1 = 0) (w_6 : r_5 = bPl to ln) (c_8 : ¬ r_5 = 0) (ev_9 : v_9 = f fr.toNatClampNeg) (fx_10 : 0 ≤ v_9 ∧ v_9 < ln) (hn_27 : 10 - k.toNatClampNeg < n_27 + 1) (h0k : 0 ≤ k) (hra : okRow fa ln) (hfr : fr ≤ k) (hto : k ≤ to ∨ k = fr) (hfa : fa = shL f fr.toNatClampNeg k.toNatClampNeg) (c_11 : to ≤ k) (hn_58 : k2.toNatClampNeg < n_58 + 1) (h1k : k2 < ln) (hrb : okRow fb ln) (hk2 : k2 ≤ fr) (hto2 : to ≤ k2 ∨ k2 = fr) (hfb : fb = shR fa k2.toNatClampNeg fr.toNatClampNeg) (c_12 : ¬ k2 ≤ to) (ev_13 : v_13 = k2 - 1) (ev_14 : v_14 = fb v_13.toNatClampNeg) (fx_15 : 0 ≤ v_14 ∧ v_14 < ln) (ev_16 : v_16 = k2 + (-1)) : v_16.toNatClampNeg < n_58 := by
  exact ms_down (k := k2) (by grind [bPl]) (by assumption) hn_58
set_option maxHeartbeats 1000000 in
theorem pf_X2_move_12 (ln : Int32) (f : Nat → Int32) (fr : Int32) (to : Int32) (r_1 : Int32) (r_5 : Int32) (v_9 : Int32) (n_27 : Nat) (k : Int32) (fa : Nat → Int32) (n_58 : Nat) (k2 : Int32) (fb : Nat → Int32) (v_13 : Int32) (v_14 : Int32) (v_16 : Int32) (hl0 : 0 ≤ ln) (hl1 : ln ≤ 10) (hr0 : okRow f ln) (w_2 : r_1 = bPl fr ln) (c_4 : ¬ r_1 = 0) (w_6 : r_5 = bPl to ln) (c_8 : ¬ r_5 = 0) (ev_9 : v_9 = f fr.toNatClampNeg) (fx_10 : 0 ≤ v_9 ∧ v_9 < ln) (hn_27 : 10 - k.toNatClampNeg < n_27 + 1) (h0k : 0 ≤ k) (hra : okRow fa ln) (hfr : fr ≤ k) (hto : k ≤ to ∨ k = fr) (hfa : fa = shL f fr.toNatClampNeg k.toNatClampNeg) (c_11 : to ≤ k) (hn_58 : k2.toNatClampNeg < n_58 + 1) (h1k : k2 < ln) (hrb : okRow fb ln) (hk2 : k2 ≤ fr) (hto2 : to ≤ k2 ∨ k2 = fr) (hfb : fb = shR fa k2.toNatClampNeg fr.toNatClampNeg) (c_12 : ¬ k2 ≤ to) (ev_13 : v_13 = k2 - 1) (ev_14 : v_14 = fb v_13.toNatClampNeg) (fx_15 : 0 ≤ v_14 ∧ v_14 < ln) (ev_16 : v_16 = k2 + (-1)) : v_16 < ln := by
  grind [bPl]
set_option maxHeartbeats 1000000 in
theorem pf_X2_move_13 (ln : Int32) (f : Nat → Int32) (fr : Int32) (to : Int32) (r_1 : Int32) (r_5 : Int32) (v_9 : Int32) (n_27 : Nat) (k : Int32) (fa : Nat → Int32) (n_58 : Nat) (k2 : Int32) (fb : Nat → Int32) (v_13 : Int32) (v_14 : Int32) (v_16 : Int32) (hl0 : 0 ≤ ln) (hl1 : ln ≤ 10) (hr0 : okRow f ln) (w_2 : r_1 = bPl fr ln) (c_4 : ¬ r_1 = 0) (w_6 : r_5 = bPl to ln) (c_8 : ¬ r_5 = 0) (ev_9 : v_9 = f fr.toNatClampNeg) (fx_10 : 0 ≤ v_9 ∧ v_9 < ln) (hn_27 : 10 - k.toNatClampNeg < n_27 + 1) (h0k : 0 ≤ k) (hra : okRow fa ln) (hfr : fr ≤ k) (hto : k ≤ to ∨ k = fr) (hfa : fa = shL f fr.toNatClampNeg k.toNatClampNeg) (c_11 : to ≤ k) (hn_58 : k2.toNatClampNeg < n_58 + 1) (h1k : k2 < ln) (hrb : okRow fb ln) (hk2 : k2 ≤ fr) (hto2 : to ≤ k2 ∨ k2 = fr) (hfb : fb = shR fa k2.toNatClampNeg fr.toNatClampNeg) (c_12 : ¬ k2 ≤ to) (ev_13 : v_13 = k2 - 1) (ev_14 : v_14 = fb v_13.toNatClampNeg) (fx_15 : 0 ≤ v_14 ∧ v_14 < ln) (ev_16 : v_16 = k2 + (-1)) : okRow (upd fb k2.toNatClampNeg v_14) ln := by
  exact okRow_upd hrb (by grind) (by grind)
set_option maxHeartbeats 1000000 in
theorem pf_X2_move_14 (ln : Int32) (f : Nat → Int32) (fr : Int32) (to : Int32) (r_1 : Int32) (r_5 : Int32) (v_9 : Int32) (n_27 : Nat) (k : Int32) (fa : Nat → Int32) (n_58 : Nat) (k2 : Int32) (fb : Nat → Int32) (v_13 : Int32) (v_14 : Int32) (v_16 : Int32) (hl0 : 0 ≤ ln) (hl1 : ln ≤ 10) (hr0 : okRow f ln) (w_2 : r_1 = bPl fr ln) (c_4 : ¬ r_1 = 0) (w_6 : r_5 = bPl to ln) (c_8 : ¬ r_5 = 0) (ev_9 : v_9 = f fr.toNatClampNeg) (fx_10 : 0 ≤ v_9 ∧ v_9 < ln) (hn_27 : 10 - k.toNatClampNeg < n_27 + 1) (h0k : 0 ≤ k) (hra : okRow fa ln) (hfr : fr ≤ k) (hto : k ≤ to ∨ k = fr) (hfa : fa = shL f fr.toNatClampNeg k.toNatClampNeg) (c_11 : to ≤ k) (hn_58 : k2.toNatClampNeg < n_58 + 1) (h1k : k2 < ln) (hrb : okRow fb ln) (hk2 : k2 ≤ fr) (hto2 : to ≤ k2 ∨ k2 = fr) (hfb : fb = shR fa k2.toNatClampNeg fr.toNatClampNeg) (c_12 : ¬ k2 ≤ to) (ev_13 : v_13 = k2 - 1) (ev_14 : v_14 = fb v_13.toNatClampNeg) (fx_15 : 0 ≤ v_14 ∧ v_14 < ln) (ev_16 : v_16 = k2 + (-1)) : v_16 ≤ fr := by
  grind [bPl]
set_option maxHeartbeats 1000000 in
theorem pf_X2_move_15 (ln : Int32) (f : Nat → Int32) (fr : Int32) (to : Int32) (r_1 : Int32) (r_5 : Int32) (v_9 : Int32) (n_27 : Nat) (k : Int32) (fa : Nat → Int32) (n_58 : Nat) (k2 : Int32) (fb : Nat → Int32) (v_13 : Int32) (v_14 : Int32) (v_16 : Int32) (hl0 : 0 ≤ ln) (hl1 : ln ≤ 10) (hr0 : okRow f ln) (w_2 : r_1 = bPl fr ln) (c_4 : ¬ r_1 = 0) (w_6 : r_5 = bPl to ln) (c_8 : ¬ r_5 = 0) (ev_9 : v_9 = f fr.toNatClampNeg) (fx_10 : 0 ≤ v_9 ∧ v_9 < ln) (hn_27 : 10 - k.toNatClampNeg < n_27 + 1) (h0k : 0 ≤ k) (hra : okRow fa ln) (hfr : fr ≤ k) (hto : k ≤ to ∨ k = fr) (hfa : fa = shL f fr.toNatClampNeg k.toNatClampNeg) (c_11 : to ≤ k) (hn_58 : k2.toNatClampNeg < n_58 + 1) (h1k : k2 < ln) (hrb : okRow fb ln) (hk2 : k2 ≤ fr) (hto2 : to ≤ k2 ∨ k2 = fr) (hfb : fb = shR fa k2.toNatClampNeg fr.toNatClampNeg) (c_12 : ¬ k2 ≤ to) (ev_13 : v_13 = k2 - 1) (ev_14 : v_14 = fb v_13.toNatClampNeg) (fx_15 : 0 ≤ v_14 ∧ v_14 < ln) (ev_16 : v_16 = k2 + (-1)) : to ≤ v_16 ∨ v_16 = fr := by
  grind [bPl]
set_option maxHeartbeats 1000000 in
theorem pf_X2_move_16 (ln : Int32) (f : Nat → Int32) (fr : Int32) (to : Int32) (r_1 : Int32) (r_5 : Int32) (v_9 : Int32) (n_27 : Nat) (k : Int32) (fa : Nat → Int32) (n_58 : Nat) (k2 : Int32) (fb : Nat → Int32) (v_13 : Int32) (v_14 : Int32) (v_16 : Int32) (hl0 : 0 ≤ ln) (hl1 : ln ≤ 10) (hr0 : okRow f ln) (w_2 : r_1 = bPl fr ln) (c_4 : ¬ r_1 = 0) (w_6 : r_5 = bPl to ln) (c_8 : ¬ r_5 = 0) (ev_9 : v_9 = f fr.toNatClampNeg) (fx_10 : 0 ≤ v_9 ∧ v_9 < ln) (hn_27 : 10 - k.toNatClampNeg < n_27 + 1) (h0k : 0 ≤ k) (hra : okRow fa ln) (hfr : fr ≤ k) (hto : k ≤ to ∨ k = fr) (hfa : fa = shL f fr.toNatClampNeg k.toNatClampNeg) (c_11 : to ≤ k) (hn_58 : k2.toNatClampNeg < n_58 + 1) (h1k : k2 < ln) (hrb : okRow fb ln) (hk2 : k2 ≤ fr) (hto2 : to ≤ k2 ∨ k2 = fr) (hfb : fb = shR fa k2.toNatClampNeg fr.toNatClampNeg) (c_12 : ¬ k2 ≤ to) (ev_13 : v_13 = k2 - 1) (ev_14 : v_14 = fb v_13.toNatClampNeg) (fx_15 : 0 ≤ v_14 ∧ v_14 < ln) (ev_16 : v_16 = k2 + (-1)) : (upd fb k2.toNatClampNeg v_14) = shR fa v_16.toNatClampNeg fr.toNatClampNeg := by
  have h9 := cl_p (k := k2) (v := k2 - 1) (by grind [bPl]) rfl (by grind [bPl])
  have hx : k2 + (-1) = k2 - 1 := by grind
  have hm := cl_mle hk2
  subst_vars
  rw [hx, ← h9]
  exact shR_s _ (by omega)
set_option maxHeartbeats 1000000 in
theorem pf_X2_move_17 (ln : Int32) (f : Nat → Int32) (fr : Int32) (to : Int32) (r_1 : Int32) (r_5 : Int32) (v_9 : Int32) (n_27 : Nat) (k : Int32) (fa : Nat → Int32) (hl0 : 0 ≤ ln) (hl1 : ln ≤ 10) (hr0 : okRow f ln) (w_2 : r_1 = bPl fr ln) (c_4 : ¬ r_1 = 0) (w_6 : r_5 = bPl to ln) (c_8 : ¬ r_5 = 0) (ev_9 : v_9 = f fr.toNatClampNeg) (fx_10 : 0 ≤ v_9 ∧ v_9 < ln) (hn_27 : 10 - k.toNatClampNeg < n_27 + 1) (h0k : 0 ≤ k) (hra : okRow fa ln) (hfr : fr ≤ k) (hto : k ≤ to ∨ k = fr) (hfa : fa = shL f fr.toNatClampNeg k.toNatClampNeg) (c_11 : to ≤ k) : fr < ln := by
  grind [bPl]
set_option maxHeartbeats 1000000 in
theorem pf_X2_move_18 (ln : Int32) (f : Nat → Int32) (fr : Int32) (to : Int32) (r_1 : Int32) (r_5 : Int32) (v_9 : Int32) (n_27 : Nat) (k : Int32) (fa : Nat → Int32) (hl0 : 0 ≤ ln) (hl1 : ln ≤ 10) (hr0 : okRow f ln) (w_2 : r_1 = bPl fr ln) (c_4 : ¬ r_1 = 0) (w_6 : r_5 = bPl to ln) (c_8 : ¬ r_5 = 0) (ev_9 : v_9 = f fr.toNatClampNeg) (fx_10 : 0 ≤ v_9 ∧ v_9 < ln) (hn_27 : 10 - k.toNatClampNeg < n_27 + 1) (h0k : 0 ≤ k) (hra : okRow fa ln) (hfr : fr ≤ k) (hto : k ≤ to ∨ k = fr) (hfa : fa = shL f fr.toNatClampNeg k.toNatClampNeg) (c_11 : to ≤ k) : okRow fa ln := by
  exact hra
set_option maxHeartbeats 1000000 in
theorem pf_X2_move_19 (ln : Int32) (f : Nat → Int32) (fr : Int32) (to : Int32) (r_1 : Int32) (r_5 : Int32) (v_9 : Int32) (n_27 : Nat) (k : Int32) (fa : Nat → Int32) (hl0 : 0 ≤ ln) (hl1 : ln ≤ 10) (hr0 : okRow f ln) (w_2 : r_1 = bPl fr ln) (c_4 : ¬ r_1 = 0) (w_6 : r_5 = bPl to ln) (c_8 : ¬ r_5 = 0) (ev_9 : v_9 = f fr.toNatClampNeg) (fx_10 : 0 ≤ v_9 ∧ v_9 < ln) (hn_27 : 10 - k.toNatClampNeg < n_27 + 1) (h0k : 0 ≤ k) (hra : okRow fa ln) (hfr : fr ≤ k) (hto : k ≤ to ∨ k = fr) (hfa : fa = shL f fr.toNatClampNeg k.toNatClampNeg) (c_11 : to ≤ k) : fr ≤ fr := by
  grind [bPl]
set_option maxHeartbeats 1000000 in
theorem pf_X2_move_20 (ln : Int32) (f : Nat → Int32) (fr : Int32) (to : Int32) (r_1 : Int32) (r_5 : Int32) (v_9 : Int32) (n_27 : Nat) (k : Int32) (fa : Nat → Int32) (hl0 : 0 ≤ ln) (hl1 : ln ≤ 10) (hr0 : okRow f ln) (w_2 : r_1 = bPl fr ln) (c_4 : ¬ r_1 = 0) (w_6 : r_5 = bPl to ln) (c_8 : ¬ r_5 = 0) (ev_9 : v_9 = f fr.toNatClampNeg) (fx_10 : 0 ≤ v_9 ∧ v_9 < ln) (hn_27 : 10 - k.toNatClampNeg < n_27 + 1) (h0k : 0 ≤ k) (hra : okRow fa ln) (hfr : fr ≤ k) (hto : k ≤ to ∨ k = fr) (hfa : fa = shL f fr.toNatClampNeg k.toNatClampNeg) (c_11 : to ≤ k) : to ≤ fr ∨ fr = fr := by
  grind [bPl]
set_option maxHeartbeats 1000000 in
theorem pf_X2_move_21 (ln : Int32) (f : Nat → Int32) (fr : Int32) (to : Int32) (r_1 : Int32) (r_5 : Int32) (v_9 : Int32) (n_27 : Nat) (k : Int32) (fa : Nat → Int32) (hl0 : 0 ≤ ln) (hl1 : ln ≤ 10) (hr0 : okRow f ln) (w_2 : r_1 = bPl fr ln) (c_4 : ¬ r_1 = 0) (w_6 : r_5 = bPl to ln) (c_8 : ¬ r_5 = 0) (ev_9 : v_9 = f fr.toNatClampNeg) (fx_10 : 0 ≤ v_9 ∧ v_9 < ln) (hn_27 : 10 - k.toNatClampNeg < n_27 + 1) (h0k : 0 ≤ k) (hra : okRow fa ln) (hfr : fr ≤ k) (hto : k ≤ to ∨ k = fr) (hfa : fa = shL f fr.toNatClampNeg k.toNatClampNeg) (c_11 : to ≤ k) : fa = shR fa fr.toNatClampNeg fr.toNatClampNeg := by
  exact (shR_0 _ _).symm
set_option maxHeartbeats 1000000 in
theorem pf_X2_move_22 (ln : Int32) (f : Nat → Int32) (fr : Int32) (to : Int32) (r_1 : Int32) (r_5 : Int32) (v_9 : Int32) (n_27 : Nat) (k : Int32) (fa : Nat → Int32) (v_17 : Int32) (hl0 : 0 ≤ ln) (hl1 : ln ≤ 10) (hr0 : okRow f ln) (w_2 : r_1 = bPl fr ln) (c_4 : ¬ r_1 = 0) (w_6 : r_5 = bPl to ln) (c_8 : ¬ r_5 = 0) (ev_9 : v_9 = f fr.toNatClampNeg) (fx_10 : 0 ≤ v_9 ∧ v_9 < ln) (hn_27 : 10 - k.toNatClampNeg < n_27 + 1) (h0k : 0 ≤ k) (hra : okRow fa ln) (hfr : fr ≤ k) (hto : k ≤ to ∨ k = fr) (hfa : fa = shL f fr.toNatClampNeg k.toNatClampNeg) (c_11 : ¬ to ≤ k) (ev_17 : v_17 = k + 1) : vp_in v_17 10 := by
  exact vi_in (M := 10) rfl (by grind [bPl]) (by grind [bPl])
set_option maxHeartbeats 1000000 in
theorem pf_X2_move_23 (ln : Int32) (f : Nat → Int32) (fr : Int32) (to : Int32) (r_1 : Int32) (r_5 : Int32) (v_9 : Int32) (n_27 : Nat) (k : Int32) (fa : Nat → Int32) (v_17 : Int32) (v_18 : Int32) (hl0 : 0 ≤ ln) (hl1 : ln ≤ 10) (hr0 : okRow f ln) (w_2 : r_1 = bPl fr ln) (c_4 : ¬ r_1 = 0) (w_6 : r_5 = bPl to ln) (c_8 : ¬ r_5 = 0) (ev_9 : v_9 = f fr.toNatClampNeg) (fx_10 : 0 ≤ v_9 ∧ v_9 < ln) (hn_27 : 10 - k.toNatClampNeg < n_27 + 1) (h0k : 0 ≤ k) (hra : okRow fa ln) (hfr : fr ≤ k) (hto : k ≤ to ∨ k = fr) (hfa : fa = shL f fr.toNatClampNeg k.toNatClampNeg) (c_11 : ¬ to ≤ k) (ev_17 : v_17 = k + 1) (ev_18 : v_18 = fa v_17.toNatClampNeg) : 0 ≤ v_18 ∧ v_18 < ln := by
  have h9 := okRow_at hra (k := v_17) (by grind [bPl]) (by grind [bPl])
  grind
set_option maxHeartbeats 1000000 in
theorem pf_X2_move_24 (ln : Int32) (f : Nat → Int32) (fr : Int32) (to : Int32) (r_1 : Int32) (r_5 : Int32) (v_9 : Int32) (n_27 : Nat) (k : Int32) (fa : Nat → Int32) (v_17 : Int32) (v_18 : Int32) (hl0 : 0 ≤ ln) (hl1 : ln ≤ 10) (hr0 : okRow f ln) (w_2 : r_1 = bPl fr ln) (c_4 : ¬ r_1 = 0) (w_6 : r_5 = bPl to ln) (c_8 : ¬ r_5 = 0) (ev_9 : v_9 = f fr.toNatClampNeg) (fx_10 : 0 ≤ v_9 ∧ v_9 < ln) (hn_27 : 10 - k.toNatClampNeg < n_27 + 1) (h0k : 0 ≤ k) (hra : okRow fa ln) (hfr : fr ≤ k) (hto : k ≤ to ∨ k = fr) (hfa : fa = shL f fr.toNatClampNeg k.toNatClampNeg) (c_11 : ¬ to ≤ k) (ev_17 : v_17 = k + 1) (ev_18 : v_18 = fa v_17.toNatClampNeg) (fx_19 : 0 ≤ v_18 ∧ v_18 < ln) : vp_in k 10 := by
  exact vi_in (M := 10) rfl (by grind [bPl]) (by grind [bPl])
set_option maxHeartbeats 1000000 in
theorem pf_X2_move_25 (ln : Int32) (f : Nat → Int32) (fr : Int32) (to : Int32) (r_1 : Int32) (r_5 : Int32) (v_9 : Int32) (n_27 : Nat) (k : Int32) (fa : Nat → Int32) (v_17 : Int32) (v_18 : Int32) (v_20 : Int32) (hl0 : 0 ≤ ln) (hl1 : ln ≤ 10) (hr0 : okRow f ln) (w_2 : r_1 = bPl fr ln) (c_4 : ¬ r_1 = 0) (w_6 : r_5 = bPl to ln) (c_8 : ¬ r_5 = 0) (ev_9 : v_9 = f fr.toNatClampNeg) (fx_10 : 0 ≤ v_9 ∧ v_9 < ln) (hn_27 : 10 - k.toNatClampNeg < n_27 + 1) (h0k : 0 ≤ k) (hra : okRow fa ln) (hfr : fr ≤ k) (hto : k ≤ to ∨ k = fr) (hfa : fa = shL f fr.toNatClampNeg k.toNatClampNeg) (c_11 : ¬ to ≤ k) (ev_17 : v_17 = k + 1) (ev_18 : v_18 = fa v_17.toNatClampNeg) (fx_19 : 0 ≤ v_18 ∧ v_18 < ln) (ev_20 : v_20 = k + 1) : 10 - v_20.toNatClampNeg < n_27 := by
  exact ms_dec (L := 10) (k := k) (by grind) (show ¬ (10 : Int32) ≤ k by grind [bPl]) (by omega) (by assumption) hn_27
set_option maxHeartbeats 1000000 in
theorem pf_X2_move_26 (ln : Int32) (f : Nat → Int32) (fr : Int32) (to : Int32) (r_1 : Int32) (r_5 : Int32) (v_9 : Int32) (n_27 : Nat) (k : Int32) (fa : Nat → Int32) (v_17 : Int32) (v_18 : Int32) (v_20 : Int32) (hl0 : 0 ≤ ln) (hl1 : ln ≤ 10) (hr0 : okRow f ln) (w_2 : r_1 = bPl fr ln) (c_4 : ¬ r_1 = 0) (w_6 : r_5 = bPl to ln) (c_8 : ¬ r_5 = 0) (ev_9 : v_9 = f fr.toNatClampNeg) (fx_10 : 0 ≤ v_9 ∧ v_9 < ln) (hn_27 : 10 - k.toNatClampNeg < n_27 + 1) (h0k : 0 ≤ k) (hra : okRow fa ln) (hfr : fr ≤ k) (hto : k ≤ to ∨ k = fr) (hfa : fa = shL f fr.toNatClampNeg k.toNatClampNeg) (c_11 : ¬ to ≤ k) (ev_17 : v_17 = k + 1) (ev_18 : v_18 = fa v_17.toNatClampNeg) (fx_19 : 0 ≤ v_18 ∧ v_18 < ln) (ev_20 : v_20 = k + 1) : 0 ≤ v_20 := by
  grind [bPl]
set_option maxHeartbeats 1000000 in
theorem pf_X2_move_27 (ln : Int32) (f : Nat → Int32) (fr : Int32) (to : Int32) (r_1 : Int32) (r_5 : Int32) (v_9 : Int32) (n_27 : Nat) (k : Int32) (fa : Nat → Int32) (v_17 : Int32) (v_18 : Int32) (v_20 : Int32) (hl0 : 0 ≤ ln) (hl1 : ln ≤ 10) (hr0 : okRow f ln) (w_2 : r_1 = bPl fr ln) (c_4 : ¬ r_1 = 0) (w_6 : r_5 = bPl to ln) (c_8 : ¬ r_5 = 0) (ev_9 : v_9 = f fr.toNatClampNeg) (fx_10 : 0 ≤ v_9 ∧ v_9 < ln) (hn_27 : 10 - k.toNatClampNeg < n_27 + 1) (h0k : 0 ≤ k) (hra : okRow fa ln) (hfr : fr ≤ k) (hto : k ≤ to ∨ k = fr) (hfa : fa = shL f fr.toNatClampNeg k.toNatClampNeg) (c_11 : ¬ to ≤ k) (ev_17 : v_17 = k + 1) (ev_18 : v_18 = fa v_17.toNatClampNeg) (fx_19 : 0 ≤ v_18 ∧ v_18 < ln) (ev_20 : v_20 = k + 1) : okRow (upd fa k.toNatClampNeg v_18) ln := by
  exact okRow_upd hra (by grind) (by grind)
set_option maxHeartbeats 1000000 in
theorem pf_X2_move_28 (ln : Int32) (f : Nat → Int32) (fr : Int32) (to : Int32) (r_1 : Int32) (r_5 : Int32) (v_9 : Int32) (n_27 : Nat) (k : Int32) (fa : Nat → Int32) (v_17 : Int32) (v_18 : Int32) (v_20 : Int32) (hl0 : 0 ≤ ln) (hl1 : ln ≤ 10) (hr0 : okRow f ln) (w_2 : r_1 = bPl fr ln) (c_4 : ¬ r_1 = 0) (w_6 : r_5 = bPl to ln) (c_8 : ¬ r_5 = 0) (ev_9 : v_9 = f fr.toNatClampNeg) (fx_10 : 0 ≤ v_9 ∧ v_9 < ln) (hn_27 : 10 - k.toNatClampNeg < n_27 + 1) (h0k : 0 ≤ k) (hra : okRow fa ln) (hfr : fr ≤ k) (hto : k ≤ to ∨ k = fr) (hfa : fa = shL f fr.toNatClampNeg k.toNatClampNeg) (c_11 : ¬ to ≤ k) (ev_17 : v_17 = k + 1) (ev_18 : v_18 = fa v_17.toNatClampNeg) (fx_19 : 0 ≤ v_18 ∧ v_18 < ln) (ev_20 : v_20 = k + 1) : fr ≤ v_20 := by
  grind [bPl]
set_option maxHeartbeats 1000000 in
theorem pf_X2_move_29 (ln : Int32) (f : Nat → Int32) (fr : Int32) (to : Int32) (r_1 : Int32) (r_5 : Int32) (v_9 : Int32) (n_27 : Nat) (k : Int32) (fa : Nat → Int32) (v_17 : Int32) (v_18 : Int32) (v_20 : Int32) (hl0 : 0 ≤ ln) (hl1 : ln ≤ 10) (hr0 : okRow f ln) (w_2 : r_1 = bPl fr ln) (c_4 : ¬ r_1 = 0) (w_6 : r_5 = bPl to ln) (c_8 : ¬ r_5 = 0) (ev_9 : v_9 = f fr.toNatClampNeg) (fx_10 : 0 ≤ v_9 ∧ v_9 < ln) (hn_27 : 10 - k.toNatClampNeg < n_27 + 1) (h0k : 0 ≤ k) (hra : okRow fa ln) (hfr : fr ≤ k) (hto : k ≤ to ∨ k = fr) (hfa : fa = shL f fr.toNatClampNeg k.toNatClampNeg) (c_11 : ¬ to ≤ k) (ev_17 : v_17 = k + 1) (ev_18 : v_18 = fa v_17.toNatClampNeg) (fx_19 : 0 ≤ v_18 ∧ v_18 < ln) (ev_20 : v_20 = k + 1) : v_20 ≤ to ∨ v_20 = fr := by
  grind [bPl]
set_option maxHeartbeats 1000000 in
theorem pf_X2_move_30 (ln : Int32) (f : Nat → Int32) (fr : Int32) (to : Int32) (r_1 : Int32) (r_5 : Int32) (v_9 : Int32) (n_27 : Nat) (k : Int32) (fa : Nat → Int32) (v_17 : Int32) (v_18 : Int32) (v_20 : Int32) (hl0 : 0 ≤ ln) (hl1 : ln ≤ 10) (hr0 : okRow f ln) (w_2 : r_1 = bPl fr ln) (c_4 : ¬ r_1 = 0) (w_6 : r_5 = bPl to ln) (c_8 : ¬ r_5 = 0) (ev_9 : v_9 = f fr.toNatClampNeg) (fx_10 : 0 ≤ v_9 ∧ v_9 < ln) (hn_27 : 10 - k.toNatClampNeg < n_27 + 1) (h0k : 0 ≤ k) (hra : okRow fa ln) (hfr : fr ≤ k) (hto : k ≤ to ∨ k = fr) (hfa : fa = shL f fr.toNatClampNeg k.toNatClampNeg) (c_11 : ¬ to ≤ k) (ev_17 : v_17 = k + 1) (ev_18 : v_18 = fa v_17.toNatClampNeg) (fx_19 : 0 ≤ v_18 ∧ v_18 < ln) (ev_20 : v_20 = k + 1) : (upd fa k.toNatClampNeg v_18) = shL f fr.toNatClampNeg v_20.toNatClampNeg := by
  have hs := cl_s (k := k) (by grind) (by grind [bPl])
  have hm := cl_mle hfr
  subst_vars
  rw [hs]
  exact shL_s _ hm
set_option maxHeartbeats 1000000 in
theorem pf_X2_move_31 (ln : Int32) (f : Nat → Int32) (fr : Int32) (to : Int32) (r_1 : Int32) (r_5 : Int32) (v_9 : Int32) (hl0 : 0 ≤ ln) (hl1 : ln ≤ 10) (hr0 : okRow f ln) (w_2 : r_1 = bPl fr ln) (c_4 : ¬ r_1 = 0) (w_6 : r_5 = bPl to ln) (c_8 : ¬ r_5 = 0) (ev_9 : v_9 = f fr.toNatClampNeg) (fx_10 : 0 ≤ v_9 ∧ v_9 < ln) : 0 ≤ fr := by
  grind [bPl]
set_option maxHeartbeats 1000000 in
theorem pf_X2_move_32 (ln : Int32) (f : Nat → Int32) (fr : Int32) (to : Int32) (r_1 : Int32) (r_5 : Int32) (v_9 : Int32) (hl0 : 0 ≤ ln) (hl1 : ln ≤ 10) (hr0 : okRow f ln) (w_2 : r_1 = bPl fr ln) (c_4 : ¬ r_1 = 0) (w_6 : r_5 = bPl to ln) (c_8 : ¬ r_5 = 0) (ev_9 : v_9 = f fr.toNatClampNeg) (fx_10 : 0 ≤ v_9 ∧ v_9 < ln) : okRow f ln := by
  exact hr0
set_option maxHeartbeats 1000000 in
theorem pf_X2_move_33 (ln : Int32) (f : Nat → Int32) (fr : Int32) (to : Int32) (r_1 : Int32) (r_5 : Int32) (v_9 : Int32) (hl0 : 0 ≤ ln) (hl1 : ln ≤ 10) (hr0 : okRow f ln) (w_2 : r_1 = bPl fr ln) (c_4 : ¬ r_1 = 0) (w_6 : r_5 = bPl to ln) (c_8 : ¬ r_5 = 0) (ev_9 : v_9 = f fr.toNatClampNeg) (fx_10 : 0 ≤ v_9 ∧ v_9 < ln) : fr ≤ fr := by
  grind [bPl]
set_option maxHeartbeats 1000000 in
theorem pf_X2_move_34 (ln : Int32) (f : Nat → Int32) (fr : Int32) (to : Int32) (r_1 : Int32) (r_5 : Int32) (v_9 : Int32) (hl0 : 0 ≤ ln) (hl1 : ln ≤ 10) (hr0 : okRow f ln) (w_2 : r_1 = bPl fr ln) (c_4 : ¬ r_1 = 0) (w_6 : r_5 = bPl to ln) (c_8 : ¬ r_5 = 0) (ev_9 : v_9 = f fr.toNatClampNeg) (fx_10 : 0 ≤ v_9 ∧ v_9 < ln) : fr ≤ to ∨ fr = fr := by
  grind [bPl]
set_option maxHeartbeats 1000000 in
theorem pf_X2_move_35 (ln : Int32) (f : Nat → Int32) (fr : Int32) (to : Int32) (r_1 : Int32) (r_5 : Int32) (v_9 : Int32) (hl0 : 0 ≤ ln) (hl1 : ln ≤ 10) (hr0 : okRow f ln) (w_2 : r_1 = bPl fr ln) (c_4 : ¬ r_1 = 0) (w_6 : r_5 = bPl to ln) (c_8 : ¬ r_5 = 0) (ev_9 : v_9 = f fr.toNatClampNeg) (fx_10 : 0 ≤ v_9 ∧ v_9 < ln) : f = shL f fr.toNatClampNeg fr.toNatClampNeg := by
  exact (shL_0 _ _).symm
set_option maxHeartbeats 1000000 in
theorem pf_X2_move_36 (ln : Int32) (f : Nat → Int32) (fr : Int32) (to : Int32) (r_1 : Int32) (r_5 : Int32) (hl0 : 0 ≤ ln) (hl1 : ln ≤ 10) (hr0 : okRow f ln) (w_2 : r_1 = bPl fr ln) (c_4 : ¬ r_1 = 0) (w_6 : r_5 = bPl to ln) (c_8 : r_5 = 0) : okRow f ln := by
  first
  | (grind [bPl])
  | (first
     | exact hr0
     | exact okRow_upd hrb (by grind) (by grind))
set_option maxHeartbeats 1000000 in
theorem pf_X2_move_37 (ln : Int32) (f : Nat → Int32) (fr : Int32) (to : Int32) (r_1 : Int32) (r_5 : Int32) (hl0 : 0 ≤ ln) (hl1 : ln ≤ 10) (hr0 : okRow f ln) (w_2 : r_1 = bPl fr ln) (c_4 : ¬ r_1 = 0) (w_6 : r_5 = bPl to ln) (c_8 : r_5 = 0) : (0 ≤ fr ∧ fr < ln ∧ 0 ≤ to ∧ to < ln → f = mv f fr.toNatClampNeg to.toNatClampNeg) := by
  first
  | (intro h9
     exact absurd h9 (by grind [bPl]))
  | (intro h9
     exact mv_end hfr hto (by assumption) hfa hk2 hto2 (by assumption) hfb (by assumption))
set_option maxHeartbeats 4000000 in
set_option maxRecDepth 100000 in
theorem c_X2_move (l : Launch) (D : va_G) (cI cQ : ClassId) (sz : Nat) (h2 : Nat) (s0 : Nat) (ln : Int32) (f : Nat → Int32) (fr : Int32) (to : Int32) (hl0 : 0 ≤ ln) (hl1 : ln ≤ 10) (hr0 : okRow f ln) : CtV l yX2_move wsX2_move 1 21 0 0 [.ref h2, .int fr, .int to] D [(cI, .int), (cQ, .array .int)] [(h2, .inr (2, [.ref s0, .int ln])), (s0, .inl (cI, 10, .inl f))] sz (fun (u : (Nat → Int32)) => okRow u ln ∧ (0 ≤ fr ∧ fr < ln ∧ 0 ≤ to ∧ to < ln → u = mv f fr.toNatClampNeg to.toNatClampNeg)) (fun (u : (Nat → Int32)) => [(h2, .inr (2, [.ref s0, .int ln])), (s0, .inl (cI, 10, .inl u))]) := by
  refine Met.ofW (cc := cX2_move) (maxL := 5) (ret := none) (by decide) rfl ?_
  intro p e s m args below meth c s₁ B hml hv
  obtain ⟨rfl, hsz, hP, hK, hD0, hN⟩ := hv
  have hx := B.exec
  have hb := B.bytes
  have hr := B.returns
  have hts := atoms_spec (ws := wsX2_move) B.pre
  have hown : s.vm.findClass RX2 = some m.cls := findClass_of_methodNamed B.named
  have hlocks := B.notSynchronized
  subst hsz
  have hD := hD0.self (sz := s.heap.size)
  generalize hAe : va_A [(h2, .inr (2, [.ref s0, .int ln])), (s0, .inl (cI, 10, .inl f))] s.heap.size = A at hD ⊢
  have hA : ∀ q : Nat, s.heap.size ≤ q → A q := fun q h => by rw [← hAe]; exact Or.inr h
  have hS : va_S A s.heap s.heap [] := va_S.rf
  have hl := lv_entry ([.ref h2, .int fr, .int to]) (n := 5) (Nat.le_of_ble_eq_true rfl)
  rw [lg_entry_eq]
  generalize (lg_sl ([.ref h2, .int fr, .int to]) ++ List.replicate (5 - (lg_sl ([.ref h2, .int fr, .int to])).length) Slot.unset).toArray = ls at hl ⊢
  have hl : lv_has ls 5 [(0, .ref h2), (1, .int fr), (2, .int to)] := hl
  refine W_gen (fun GW hIn hOut => ?_)
  refine hIn _ _ _ _ _ ?_
  have hP0 := hP
  refine lv_aload_n hx hb dX2_move_0 rfl (lv_at hl 0 rfl) ?_
  refine lv_iload_n hx hb dX2_move_1 rfl (lv_at hl 1 rfl) ?_
  refine cc_i (wc := [(h2, .inr (2, [.ref s0, .int ln]))]) (wr := [(s0, .inl (cI, 10, .inl f))]) (va_runV (As := [.int fr]) (rest := []) ⟨hx, hb, hml, hown, hts⟩ (c_X2_isPlace l D cI cQ s.heap.size h2 s0 ln fr ) (cwV 1 hts gX2_move_X2_isPlace rfl rfl rfl (by decide +kernel) ⟨Nat.le_of_ble_eq_true rfl, Nat.le_of_ble_eq_true rfl⟩) (preV (wc := [(h2, .inr (2, [.ref s0, .int ln]))]) (ci := 2) (q0 := 0) hK hP hD hN [0] rfl (by decide) rfl rfl) rfl rfl hl.1 rfl (lv_room (Nat.le_of_ble_eq_true rfl)) dX2_move_2 ⟨Nat.le_of_ble_eq_true rfl, Nat.le_of_ble_eq_true rfl⟩) hP hD hS hA [0] [1] rfl rfl (by decide) (by decide) (fun r_1 u H locs w_2 hP hD hS => ?_)
  have hP : va_P D vwCl [(s0, .inl (cI, 10, .inl f)), (h2, .inr (2, [.ref s0, .int ln]))] H := hP
  have hD : va_D A [(s0, .inl (cI, 10, .inl f)), (h2, .inr (2, [.ref s0, .int ln]))] := hD
  have w_2 : r_1 = bPl fr ln := w_2
  refine lv_if_eq (tgt := 16) hx hb dX2_move_5 (by decide) (fun c_4 => ?_) (fun c_4 => ?_)
  · refine W.widen (k := 0) (n := 0) (Nat.le_of_ble_eq_true rfl) (Nat.le_of_ble_eq_true rfl) ?_
    exact fi_v f hx hb hr hlocks hK (hP.sub [1, 0] rfl) (hD.sub [1, 0] (by decide) rfl) hS ⟨(pf_X2_move_1 ln f fr r_1 hl0 hl1 hr0 w_2 c_4), (pf_X2_move_2 ln f fr to r_1 hl0 hl1 hr0 w_2 c_4)⟩ dX2_move_16
  · refine lv_aload_n hx hb dX2_move_8 rfl (lv_at hl 0 rfl) ?_
    refine lv_iload_n hx hb dX2_move_9 rfl (lv_at hl 2 rfl) ?_
    refine cc_i (wc := [(h2, .inr (2, [.ref s0, .int ln]))]) (wr := [(s0, .inl (cI, 10, .inl f))]) (va_runV (As := [.int to]) (rest := []) ⟨hx, hb, hml, hown, hts⟩ (c_X2_isPlace l D cI cQ H.size h2 s0 ln to ) (cwV 1 hts gX2_move_X2_isPlace rfl rfl rfl (by decide +kernel) ⟨Nat.le_of_ble_eq_true rfl, Nat.le_of_ble_eq_true rfl⟩) (preV (wc := [(h2, .inr (2, [.ref s0, .int ln]))]) (ci := 2) (q0 := 1) hK hP hD hN [1] rfl (by decide) rfl rfl) rfl rfl hl.1 rfl (lv_room (Nat.le_of_ble_eq_true rfl)) dX2_move_10 ⟨Nat.le_of_ble_eq_true rfl, Nat.le_of_ble_eq_true rfl⟩) hP hD hS hA [1] [0] rfl rfl (by decide) (by decide) (fun r_5 u H locs w_6 hP hD hS => ?_)
    have hP : va_P D vwCl [(s0, .inl (cI, 10, .inl f)), (h2, .inr (2, [.ref s0, .int ln]))] H := hP
    have hD : va_D A [(s0, .inl (cI, 10, .inl f)), (h2, .inr (2, [.ref s0, .int ln]))] := hD
    have w_6 : r_5 = bPl to ln := w_6
    refine lv_if_ne (tgt := 17) hx hb dX2_move_13 (by decide) (fun c_8 => ?_) (fun c_8 => ?_)
    · refine lv_aload_n hx hb dX2_move_17 rfl (lv_at hl 0 rfl) ?_
      refine va_get (D := D) (ci := 2) (v := .ref s0) (C := RX2) (T := TX2) (N := 2) hx hb hts iw_X2_move_2 hown hK hP 1 rfl rfl 0 (by decide) (hts _ wd_X2_move_1) (fun _ h9 => h9) rfl dX2_move_18 ?_
      refine lv_iload_n hx hb dX2_move_21 rfl (lv_at hl 1 rfl) ?_
      refine va_iald hx hb hK hP 0 0 rfl rfl (pf_X2_move_3 ln f fr to r_1 r_5 hl0 hl1 hr0 w_2 c_4 w_6 c_8) dX2_move_22 ?_
      refine lv_topi (fun v_9 ev_9 => ?_)
      have fx_10 : 0 ≤ v_9 ∧ v_9 < ln := (pf_X2_move_4 ln f fr to r_1 r_5 v_9 hl0 hl1 hr0 w_2 c_4 w_6 c_8 ev_9)
      refine lv_istore_n (lv' := [(3, .int v_9), (0, .ref h2), (1, .int fr), (2, .int to)]) hx hb dX2_move_23 rfl hl (by decide) rfl (fun ls hl => ?_)
      refine lv_iload_n hx hb dX2_move_24 rfl (lv_at hl 2 rfl) ?_
      refine lv_istore (lv' := [(4, .int fr), (3, .int v_9), (0, .ref h2), (1, .int fr), (2, .int to)]) hx hb dX2_move_25 hl (by decide) rfl (fun ls hl => ?_)
      have lp_27 : ∀ (n : Nat) (k : Int32) (fa : Nat → Int32) (H : Heap) (locs : List Loc) (ls : Array Slot), 10 - k.toNatClampNeg < n → (0 ≤ k) → (okRow fa ln) → (fr ≤ k) → (k ≤ to ∨ k = fr) → (fa = shL f fr.toNatClampNeg k.toNatClampNeg) → va_P D vwCl [(h2, .inr (2, [.ref s0, .int ln])), (s0, .inl (cI, 10, .inl fa))] H → va_D A [(h2, .inr (2, [.ref s0, .int ln])), (s0, .inl (cI, 10, .inl fa))] → va_S A s.heap H locs → lv_has ls 5 [(0, .ref h2), (1, .int fr), (2, .int to), (3, .int v_9), (4, .int k)] → GW H locs 0 0 (F0 m 27 ls []) := by
        intro n_27
        induction n_27 with
        | zero => intro k fa H locs ls hn_27; exact absurd hn_27 (Nat.not_lt_zero _)
        | succ n_27 ih_27 =>
          intro k fa H locs ls hn_27 h0k hra hfr hto hfa hP hD hS hl
          refine hIn _ _ _ _ _ ?_
          refine lv_iload hx hb dX2_move_27 (lv_at hl 4 rfl) ?_
          refine lv_iload_n hx hb dX2_move_29 rfl (lv_at hl 2 rfl) ?_
          refine lv_icmp_ge (tgt := 55) hx hb dX2_move_30 (by decide) (fun c_11 => ?_) (fun c_11 => ?_)
          · refine lv_iload_n hx hb dX2_move_55 rfl (lv_at hl 1 rfl) ?_
            refine lv_istore (lv' := [(4, .int fr), (0, .ref h2), (1, .int fr), (2, .int to), (3, .int v_9)]) hx hb dX2_move_56 hl (by decide) rfl (fun ls hl => ?_)
            have lp_58 : ∀ (n : Nat) (k2 : Int32) (fb : Nat → Int32) (H : Heap) (locs : List Loc) (ls : Array Slot), k2.toNatClampNeg < n → (k2 < ln) → (okRow fb ln) → (k2 ≤ fr) → (to ≤ k2 ∨ k2 = fr) → (fb = shR fa k2.toNatClampNeg fr.toNatClampNeg) → va_P D vwCl [(h2, .inr (2, [.ref s0, .int ln])), (s0, .inl (cI, 10, .inl fb))] H → va_D A [(h2, .inr (2, [.ref s0, .int ln])), (s0, .inl (cI, 10, .inl fb))] → va_S A s.heap H locs → lv_has ls 5 [(0, .ref h2), (1, .int fr), (2, .int to), (3, .int v_9), (4, .int k2)] → GW H locs 0 0 (F0 m 58 ls []) := by
              intro n_58
              induction n_58 with
              | zero => intro k2 fb H locs ls hn_58; exact absurd hn_58 (Nat.not_lt_zero _)
              | succ n_58 ih_58 =>
                intro k2 fb H locs ls hn_58 h1k hrb hk2 hto2 hfb hP hD hS hl
                refine hIn _ _ _ _ _ ?_
                refine lv_iload hx hb dX2_move_58 (lv_at hl 4 rfl) ?_
                refine lv_iload_n hx hb dX2_move_60 rfl (lv_at hl 2 rfl) ?_
                refine lv_icmp_le (tgt := 86) hx hb dX2_move_61 (by decide) (fun c_12 => ?_) (fun c_12 => ?_)
                · refine lv_aload_n hx hb dX2_move_86 rfl (lv_at hl 0 rfl) ?_
                  refine va_get (D := D) (ci := 2) (v := .ref s0) (C := RX2) (T := TX2) (N := 2) hx hb hts iw_X2_move_2 hown hK hP 0 rfl rfl 0 (by decide) (hts _ wd_X2_move_1) (fun _ h9 => h9) rfl dX2_move_87 ?_
                  refine lv_iload_n hx hb dX2_move_90 rfl (lv_at hl 2 rfl) ?_
                  refine lv_iload_n hx hb dX2_move_91 rfl (lv_at hl 3 rfl) ?_
                  refine va_iast hx hb hK hP hD hS 1 0 rfl rfl (pf_X2_move_5 ln f fr to r_1 r_5 v_9 n_27 k fa n_58 k2 fb hl0 hl1 hr0 w_2 c_4 w_6 c_8 ev_9 fx_10 hn_27 h0k hra hfr hto hfa c_11 hn_58 h1k hrb hk2 hto2 hfb c_12) dX2_move_92 (fun H locs hP hD hS => ?_)
                  have hP : va_P D vwCl [(h2, .inr (2, [.ref s0, .int ln])), (s0, .inl (cI, 10, .inl (upd fb to.toNatClampNeg v_9)))] H := hP
                  have hD : va_D A [(h2, .inr (2, [.ref s0, .int ln])), (s0, .inl (cI, 10, .inl (upd fb to.toNatClampNeg v_9)))] := hD
                  refine W.widen (k := 0) (n := 0) (Nat.le_of_ble_eq_true rfl) (Nat.le_of_ble_eq_true rfl) ?_
                  exact fi_v (upd fb to.toNatClampNeg v_9) hx hb hr hlocks hK (hP.sub [0, 1] rfl) (hD.sub [0, 1] (by decide) rfl) hS ⟨(pf_X2_move_6 ln f fr to r_1 r_5 v_9 n_27 k fa n_58 k2 fb hl0 hl1 hr0 w_2 c_4 w_6 c_8 ev_9 fx_10 hn_27 h0k hra hfr hto hfa c_11 hn_58 h1k hrb hk2 hto2 hfb c_12), (pf_X2_move_7 ln f fr to r_1 r_5 v_9 n_27 k fa n_58 k2 fb hl0 hl1 hr0 w_2 c_4 w_6 c_8 ev_9 fx_10 hn_27 h0k hra hfr hto hfa c_11 hn_58 h1k hrb hk2 hto2 hfb c_12)⟩ dX2_move_93
                · refine lv_aload_n hx hb dX2_move_64 rfl (lv_at hl 0 rfl) ?_
                  refine va_get (D := D) (ci := 2) (v := .ref s0) (C := RX2) (T := TX2) (N := 2) hx hb hts iw_X2_move_2 hown hK hP 0 rfl rfl 0 (by decide) (hts _ wd_X2_move_1) (fun _ h9 => h9) rfl dX2_move_65 ?_
                  refine lv_iload hx hb dX2_move_68 (lv_at hl 4 rfl) ?_
                  refine lv_aload_n hx hb dX2_move_70 rfl (lv_at hl 0 rfl) ?_
                  refine va_get (D := D) (ci := 2) (v := .ref s0) (C := RX2) (T := TX2) (N := 2) hx hb hts iw_X2_move_2 hown hK hP 0 rfl rfl 0 (by decide) (hts _ wd_X2_move_1) (fun _ h9 => h9) rfl dX2_move_71 ?_
                  refine lv_iload hx hb dX2_move_74 (lv_at hl 4 rfl) ?_
                  refine lv_iconst (v := 1) hx hb dX2_move_76 (by decide) ?_
                  refine lv_isub hx hb dX2_move_77 ?_
                  refine lv_topi (fun v_13 ev_13 => ?_)
                  refine va_iald hx hb hK hP 1 0 rfl rfl (pf_X2_move_8 ln f fr to r_1 r_5 v_9 n_27 k fa n_58 k2 fb v_13 hl0 hl1 hr0 w_2 c_4 w_6 c_8 ev_9 fx_10 hn_27 h0k hra hfr hto hfa c_11 hn_58 h1k hrb hk2 hto2 hfb c_12 ev_13) dX2_move_78 ?_
                  refine lv_topi (fun v_14 ev_14 => ?_)
                  have fx_15 : 0 ≤ v_14 ∧ v_14 < ln := (pf_X2_move_9 ln f fr to r_1 r_5 v_9 n_27 k fa n_58 k2 fb v_13 v_14 hl0 hl1 hr0 w_2 c_4 w_6 c_8 ev_9 fx_10 hn_27 h0k hra hfr hto hfa c_11 hn_58 h1k hrb hk2 hto2 hfb c_12 ev_13 ev_14)
                  refine va_iast hx hb hK hP hD hS 1 0 rfl rfl (pf_X2_move_10 ln f fr to r_1 r_5 v_9 n_27 k fa n_58 k2 fb v_13 v_14 hl0 hl1 hr0 w_2 c_4 w_6 c_8 ev_9 fx_10 hn_27 h0k hra hfr hto hfa c_11 hn_58 h1k hrb hk2 hto2 hfb c_12 ev_13 ev_14 fx_15) dX2_move_79 (fun H locs hP hD hS => ?_)
                  have hP : va_P D vwCl [(h2, .inr (2, [.ref s0, .int ln])), (s0, .inl (cI, 10, .inl (upd fb k2.toNatClampNeg v_14)))] H := hP
                  have hD : va_D A [(h2, .inr (2, [.ref s0, .int ln])), (s0, .inl (cI, 10, .inl (upd fb k2.toNatClampNeg v_14)))] := hD
                  obtain ⟨v_16, ev_16⟩ : ∃ y : Int32, y = k2 + (-1) := ⟨_, rfl⟩
                  refine lv_iinc (v := v_16) (lv' := [(4, .int v_16), (0, .ref h2), (1, .int fr), (2, .int to), (3, .int v_9)]) hx hb dX2_move_80 hl (k := 4) rfl (by rw [ev_16]; rfl) (by decide) rfl (fun ls hl => ?_)
                  refine lv_goto (tgt := 58) hx hb dX2_move_83 (by decide) ?_
                  exact hOut _ _ _ _ _ (ih_58 v_16 (upd fb k2.toNatClampNeg v_14) _ _ _ (pf_X2_move_11 ln f fr to r_1 r_5 v_9 n_27 k fa n_58 k2 fb v_13 v_14 v_16 hl0 hl1 hr0 w_2 c_4 w_6 c_8 ev_9 fx_10 hn_27 h0k hra hfr hto hfa c_11 hn_58 h1k hrb hk2 hto2 hfb c_12 ev_13 ev_14 fx_15 ev_16) (pf_X2_move_12 ln f fr to r_1 r_5 v_9 n_27 k fa n_58 k2 fb v_13 v_14 v_16 hl0 hl1 hr0 w_2 c_4 w_6 c_8 ev_9 fx_10 hn_27 h0k hra hfr hto hfa c_11 hn_58 h1k hrb hk2 hto2 hfb c_12 ev_13 ev_14 fx_15 ev_16) (pf_X2_move_13 ln f fr to r_1 r_5 v_9 n_27 k fa n_58 k2 fb v_13 v_14 v_16 hl0 hl1 hr0 w_2 c_4 w_6 c_8 ev_9 fx_10 hn_27 h0k hra hfr hto hfa c_11 hn_58 h1k hrb hk2 hto2 hfb c_12 ev_13 ev_14 fx_15 ev_16) (pf_X2_move_14 ln f fr to r_1 r_5 v_9 n_27 k fa n_58 k2 fb v_13 v_14 v_16 hl0 hl1 hr0 w_2 c_4 w_6 c_8 ev_9 fx_10 hn_27 h0k hra hfr hto hfa c_11 hn_58 h1k hrb hk2 hto2 hfb c_12 ev_13 ev_14 fx_15 ev_16) (pf_X2_move_15 ln f fr to r_1 r_5 v_9 n_27 k fa n_58 k2 fb v_13 v_14 v_16 hl0 hl1 hr0 w_2 c_4 w_6 c_8 ev_9 fx_10 hn_27 h0k hra hfr hto hfa c_11 hn_58 h1k hrb hk2 hto2 hfb c_12 ev_13 ev_14 fx_15 ev_16) (pf_X2_move_16 ln f fr to r_1 r_5 v_9 n_27 k fa n_58 k2 fb v_13 v_14 v_16 hl0 hl1 hr0 w_2 c_4 w_6 c_8 ev_9 fx_10 hn_27 h0k hra hfr hto hfa c_11 hn_58 h1k hrb hk2 hto2 hfb c_12 ev_13 ev_14 fx_15 ev_16) (hP.sub [0, 1] rfl) (hD.sub [0, 1] (by decide) rfl) hS (lv_sub hl [1, 2, 3, 4, 0] rfl))
            exact hOut _ _ _ _ _ (lp_58 (fr.toNatClampNeg + 1) fr fa _ _ _ (Nat.lt_succ_self _) (pf_X2_move_17 ln f fr to r_1 r_5 v_9 n_27 k fa hl0 hl1 hr0 w_2 c_4 w_6 c_8 ev_9 fx_10 hn_27 h0k hra hfr hto hfa c_11) (pf_X2_move_18 ln f fr to r_1 r_5 v_9 n_27 k fa hl0 hl1 hr0 w_2 c_4 w_6 c_8 ev_9 fx_10 hn_27 h0k hra hfr hto hfa c_11) (pf_X2_move_19 ln f fr to r_1 r_5 v_9 n_27 k fa hl0 hl1 hr0 w_2 c_4 w_6 c_8 ev_9 fx_10 hn_27 h0k hra hfr hto hfa c_11) (pf_X2_move_20 ln f fr to r_1 r_5 v_9 n_27 k fa hl0 hl1 hr0 w_2 c_4 w_6 c_8 ev_9 fx_10 hn_27 h0k hra hfr hto hfa c_11) (pf_X2_move_21 ln f fr to r_1 r_5 v_9 n_27 k fa hl0 hl1 hr0 w_2 c_4 w_6 c_8 ev_9 fx_10 hn_27 h0k hra hfr hto hfa c_11) (hP.sub [0, 1] rfl) (hD.sub [0, 1] (by decide) rfl) hS (lv_sub hl [1, 2, 3, 4, 0] rfl))
          · refine lv_aload_n hx hb dX2_move_33 rfl (lv_at hl 0 rfl) ?_
            refine va_get (D := D) (ci := 2) (v := .ref s0) (C := RX2) (T := TX2) (N := 2) hx hb hts iw_X2_move_2 hown hK hP 0 rfl rfl 0 (by decide) (hts _ wd_X2_move_1) (fun _ h9 => h9) rfl dX2_move_34 ?_
            refine lv_iload hx hb dX2_move_37 (lv_at hl 4 rfl) ?_
            refine lv_aload_n hx hb dX2_move_39 rfl (lv_at hl 0 rfl) ?_
            refine va_get (D := D) (ci := 2) (v := .ref s0) (C := RX2) (T := TX2) (N := 2) hx hb hts iw_X2_move_2 hown hK hP 0 rfl rfl 0 (by decide) (hts _ wd_X2_move_1) (fun _ h9 => h9) rfl dX2_move_40 ?_
            refine lv_iload hx hb dX2_move_43 (lv_at hl 4 rfl) ?_
            refine lv_iconst (v := 1) hx hb dX2_move_45 (by decide) ?_
            refine lv_iadd hx hb dX2_move_46 ?_
            refine lv_topi (fun v_17 ev_17 => ?_)
            refine va_iald hx hb hK hP 1 0 rfl rfl (pf_X2_move_22 ln f fr to r_1 r_5 v_9 n_27 k fa v_17 hl0 hl1 hr0 w_2 c_4 w_6 c_8 ev_9 fx_10 hn_27 h0k hra hfr hto hfa c_11 ev_17) dX2_move_47 ?_
            refine lv_topi (fun v_18 ev_18 => ?_)
            have fx_19 : 0 ≤ v_18 ∧ v_18 < ln := (pf_X2_move_23 ln f fr to r_1 r_5 v_9 n_27 k fa v_17 v_18 hl0 hl1 hr0 w_2 c_4 w_6 c_8 ev_9 fx_10 hn_27 h0k hra hfr hto hfa c_11 ev_17 ev_18)
            refine va_iast hx hb hK hP hD hS 1 0 rfl rfl (pf_X2_move_24 ln f fr to r_1 r_5 v_9 n_27 k fa v_17 v_18 hl0 hl1 hr0 w_2 c_4 w_6 c_8 ev_9 fx_10 hn_27 h0k hra hfr hto hfa c_11 ev_17 ev_18 fx_19) dX2_move_48 (fun H locs hP hD hS => ?_)
            have hP : va_P D vwCl [(h2, .inr (2, [.ref s0, .int ln])), (s0, .inl (cI, 10, .inl (upd fa k.toNatClampNeg v_18)))] H := hP
            have hD : va_D A [(h2, .inr (2, [.ref s0, .int ln])), (s0, .inl (cI, 10, .inl (upd fa k.toNatClampNeg v_18)))] := hD
            obtain ⟨v_20, ev_20⟩ : ∃ y : Int32, y = k + 1 := ⟨_, rfl⟩
            refine lv_iinc (v := v_20) (lv' := [(4, .int v_20), (0, .ref h2), (1, .int fr), (2, .int to), (3, .int v_9)]) hx hb dX2_move_49 hl (k := 4) rfl (by rw [ev_20]; rfl) (by decide) rfl (fun ls hl => ?_)
            refine lv_goto (tgt := 27) hx hb dX2_move_52 (by decide) ?_
            exact hOut _ _ _ _ _ (ih_27 v_20 (upd fa k.toNatClampNeg v_18) _ _ _ (pf_X2_move_25 ln f fr to r_1 r_5 v_9 n_27 k fa v_17 v_18 v_20 hl0 hl1 hr0 w_2 c_4 w_6 c_8 ev_9 fx_10 hn_27 h0k hra hfr hto hfa c_11 ev_17 ev_18 fx_19 ev_20) (pf_X2_move_26 ln f fr to r_1 r_5 v_9 n_27 k fa v_17 v_18 v_20 hl0 hl1 hr0 w_2 c_4 w_6 c_8 ev_9 fx_10 hn_27 h0k hra hfr hto hfa c_11 ev_17 ev_18 fx_19 ev_20) (pf_X2_move_27 ln f fr to r_1 r_5 v_9 n_27 k fa v_17 v_18 v_20 hl0 hl1 hr0 w_2 c_4 w_6 c_8 ev_9 fx_10 hn_27 h0k hra hfr hto hfa c_11 ev_17 ev_18 fx_19 ev_20) (pf_X2_move_28 ln f fr to r_1 r_5 v_9 n_27 k fa v_17 v_18 v_20 hl0 hl1 hr0 w_2 c_4 w_6 c_8 ev_9 fx_10 hn_27 h0k hra hfr hto hfa c_11 ev_17 ev_18 fx_19 ev_20) (pf_X2_move_29 ln f fr to r_1 r_5 v_9 n_27 k fa v_17 v_18 v_20 hl0 hl1 hr0 w_2 c_4 w_6 c_8 ev_9 fx_10 hn_27 h0k hra hfr hto hfa c_11 ev_17 ev_18 fx_19 ev_20) (pf_X2_move_30 ln f fr to r_1 r_5 v_9 n_27 k fa v_17 v_18 v_20 hl0 hl1 hr0 w_2 c_4 w_6 c_8 ev_9 fx_10 hn_27 h0k hra hfr hto hfa c_11 ev_17 ev_18 fx_19 ev_20) (hP.sub [0, 1] rfl) (hD.sub [0, 1] (by decide) rfl) hS (lv_sub hl [1, 2, 3, 4, 0] rfl))
      exact hOut _ _ _ _ _ (lp_27 (10 - fr.toNatClampNeg + 1) fr f _ _ _ (Nat.lt_succ_self _) (pf_X2_move_31 ln f fr to r_1 r_5 v_9 hl0 hl1 hr0 w_2 c_4 w_6 c_8 ev_9 fx_10) (pf_X2_move_32 ln f fr to r_1 r_5 v_9 hl0 hl1 hr0 w_2 c_4 w_6 c_8 ev_9 fx_10) (pf_X2_move_33 ln f fr to r_1 r_5 v_9 hl0 hl1 hr0 w_2 c_4 w_6 c_8 ev_9 fx_10) (pf_X2_move_34 ln f fr to r_1 r_5 v_9 hl0 hl1 hr0 w_2 c_4 w_6 c_8 ev_9 fx_10) (pf_X2_move_35 ln f fr to r_1 r_5 v_9 hl0 hl1 hr0 w_2 c_4 w_6 c_8 ev_9 fx_10) (hP.sub [1, 0] rfl) (hD.sub [1, 0] (by decide) rfl) hS (lv_sub hl [2, 3, 4, 1, 0] rfl))
    · refine W.widen (k := 0) (n := 0) (Nat.le_of_ble_eq_true rfl) (Nat.le_of_ble_eq_true rfl) ?_
      exact fi_v f hx hb hr hlocks hK (hP.sub [1, 0] rfl) (hD.sub [1, 0] (by decide) rfl) hS ⟨(pf_X2_move_36 ln f fr to r_1 r_5 hl0 hl1 hr0 w_2 c_4 w_6 c_8), (pf_X2_move_37 ln f fr to r_1 r_5 hl0 hl1 hr0 w_2 c_4 w_6 c_8)⟩ dX2_move_16

theorem iw_X2_toNext_2 : ∀ w ∈ wsX20, w ∈ wsX2_toNext := fun w h => (List.mem_cons_of_mem _ (List.mem_append_right _ h))
theorem wd_X2_toNext_1 : (.fieldLink RX2 15 "PourPlan$Sequence" "length" "I" : Cond) ∈ wsX2_toNext := List.mem_of_getElem? (i := 1) rfl
theorem wd_X2_toNext_2 : (.fieldLink RX2 9 "PourPlan$Sequence" "row" "[I" : Cond) ∈ wsX2_toNext := List.mem_of_getElem? (i := 2) rfl
set_option maxHeartbeats 1000000 in
theorem pf_X2_toNext_1 (ln : Int32) (f : Nat → Int32) (v_1 : Int32) (n_7 : Nat) (k : Int32) (hl0 : 0 ≤ ln) (hl1 : ln ≤ 10) (hr0 : okRow f ln) (ev_1 : v_1 = ln - 2) (hn_7 : (k + 1).toNatClampNeg < n_7 + 1) (h1k : k < ln - 1) (hlo : -2 ≤ k) (hpv : pv f (k + 1).toNatClampNeg = pv f (ln.toNatClampNeg - 1)) (c_2 : k < 0) (c_3 : 0 ≤ k) : False := by
  grind
set_option maxHeartbeats 1000000 in
theorem pf_X2_toNext_2 (ln : Int32) (f : Nat → Int32) (v_1 : Int32) (n_7 : Nat) (k : Int32) (hl0 : 0 ≤ ln) (hl1 : ln ≤ 10) (hr0 : okRow f ln) (ev_1 : v_1 = ln - 2) (hn_7 : (k + 1).toNatClampNeg < n_7 + 1) (h1k : k < ln - 1) (hlo : -2 ≤ k) (hpv : pv f (k + 1).toNatClampNeg = pv f (ln.toNatClampNeg - 1)) (c_2 : k < 0) (c_3 : ¬ 0 ≤ k) : okRow f ln := by
  first
  | (grind)
  | (first
     | exact hr0
     | exact hra)
set_option maxHeartbeats 1000000 in
theorem pf_X2_toNext_3 (ln : Int32) (f : Nat → Int32) (v_1 : Int32) (n_7 : Nat) (k : Int32) (hl0 : 0 ≤ ln) (hl1 : ln ≤ 10) (hr0 : okRow f ln) (ev_1 : v_1 = ln - 2) (hn_7 : (k + 1).toNatClampNeg < n_7 + 1) (h1k : k < ln - 1) (hlo : -2 ≤ k) (hpv : pv f (k + 1).toNatClampNeg = pv f (ln.toNatClampNeg - 1)) (c_2 : k < 0) (c_3 : ¬ 0 ≤ k) : ((0 : Int32) = 0 ↔ pv f (ln.toNatClampNeg - 1) = 0) := by
  have h9 := pv_z hlo (by grind) hpv
  rw [h9]
  decide
set_option maxHeartbeats 1000000 in
theorem pf_X2_toNext_4 (ln : Int32) (f : Nat → Int32) (v_1 : Int32) (n_7 : Nat) (k : Int32) (hl0 : 0 ≤ ln) (hl1 : ln ≤ 10) (hr0 : okRow f ln) (ev_1 : v_1 = ln - 2) (hn_7 : (k + 1).toNatClampNeg < n_7 + 1) (h1k : k < ln - 1) (hlo : -2 ≤ k) (hpv : pv f (k + 1).toNatClampNeg = pv f (ln.toNatClampNeg - 1)) (c_2 : k < 0) (c_3 : ¬ 0 ≤ k) : (¬ (0 : Int32) = 0 → f = nxF f ln.toNatClampNeg) := by
  intro h9
  exact absurd rfl h9
set_option maxHeartbeats 1000000 in
theorem pf_X2_toNext_5 (ln : Int32) (f : Nat → Int32) (v_1 : Int32) (n_7 : Nat) (k : Int32) (hl0 : 0 ≤ ln) (hl1 : ln ≤ 10) (hr0 : okRow f ln) (ev_1 : v_1 = ln - 2) (hn_7 : (k + 1).toNatClampNeg < n_7 + 1) (h1k : k < ln - 1) (hlo : -2 ≤ k) (hpv : pv f (k + 1).toNatClampNeg = pv f (ln.toNatClampNeg - 1)) (c_2 : ¬ k < 0) : vp_in k 10 := by
  exact vi_in (M := 10) rfl (by grind) (by grind)
set_option maxHeartbeats 1000000 in
theorem pf_X2_toNext_6 (ln : Int32) (f : Nat → Int32) (v_1 : Int32) (n_7 : Nat) (k : Int32) (v_4 : Int32) (v_5 : Int32) (hl0 : 0 ≤ ln) (hl1 : ln ≤ 10) (hr0 : okRow f ln) (ev_1 : v_1 = ln - 2) (hn_7 : (k + 1).toNatClampNeg < n_7 + 1) (h1k : k < ln - 1) (hlo : -2 ≤ k) (hpv : pv f (k + 1).toNatClampNeg = pv f (ln.toNatClampNeg - 1)) (c_2 : ¬ k < 0) (ev_4 : v_4 = f k.toNatClampNeg) (ev_5 : v_5 = k + 1) : vp_in v_5 10 := by
  exact vi_in (M := 10) rfl (by grind) (by grind)
set_option maxHeartbeats 1000000 in
theorem pf_X2_toNext_7 (ln : Int32) (f : Nat → Int32) (v_1 : Int32) (n_7 : Nat) (k : Int32) (v_4 : Int32) (v_5 : Int32) (v_6 : Int32) (hl0 : 0 ≤ ln) (hl1 : ln ≤ 10) (hr0 : okRow f ln) (ev_1 : v_1 = ln - 2) (hn_7 : (k + 1).toNatClampNeg < n_7 + 1) (h1k : k < ln - 1) (hlo : -2 ≤ k) (hpv : pv f (k + 1).toNatClampNeg = pv f (ln.toNatClampNeg - 1)) (c_2 : ¬ k < 0) (ev_4 : v_4 = f k.toNatClampNeg) (ev_5 : v_5 = k + 1) (ev_6 : v_6 = f v_5.toNatClampNeg) (c_7 : v_4 ≤ v_6) (c_8 : ¬ 0 ≤ k) : False := by
  grind
set_option maxHeartbeats 1000000 in
theorem pf_X2_toNext_8 (ln : Int32) (f : Nat → Int32) (v_1 : Int32) (n_7 : Nat) (k : Int32) (v_4 : Int32) (v_5 : Int32) (v_6 : Int32) (v_9 : Int32) (n_47 : Nat) (k2 : Int32) (hl0 : 0 ≤ ln) (hl1 : ln ≤ 10) (hr0 : okRow f ln) (ev_1 : v_1 = ln - 2) (hn_7 : (k + 1).toNatClampNeg < n_7 + 1) (h1k : k < ln - 1) (hlo : -2 ≤ k) (hpv : pv f (k + 1).toNatClampNeg = pv f (ln.toNatClampNeg - 1)) (c_2 : ¬ k < 0) (ev_4 : v_4 = f k.toNatClampNeg) (ev_5 : v_5 = k + 1) (ev_6 : v_6 = f v_5.toNatClampNeg) (c_7 : v_4 ≤ v_6) (c_8 : 0 ≤ k) (ev_9 : v_9 = ln - 1) (hn_47 : k2.toNatClampNeg < n_47 + 1) (h0k : 0 ≤ k) (h2k : k2 < ln) (h3k : k ≤ k2) (hsj : sj f k.toNatClampNeg k2.toNatClampNeg = sj f k.toNatClampNeg (ln.toNatClampNeg - 1)) (c_10 : k2 ≤ k) : vp_in k 10 := by
  exact vi_in (M := 10) rfl (by grind) (by grind)
set_option maxHeartbeats 1000000 in
theorem pf_X2_toNext_9 (ln : Int32) (f : Nat → Int32) (v_1 : Int32) (n_7 : Nat) (k : Int32) (v_4 : Int32) (v_5 : Int32) (v_6 : Int32) (v_9 : Int32) (n_47 : Nat) (k2 : Int32) (hl0 : 0 ≤ ln) (hl1 : ln ≤ 10) (hr0 : okRow f ln) (ev_1 : v_1 = ln - 2) (hn_7 : (k + 1).toNatClampNeg < n_7 + 1) (h1k : k < ln - 1) (hlo : -2 ≤ k) (hpv : pv f (k + 1).toNatClampNeg = pv f (ln.toNatClampNeg - 1)) (c_2 : ¬ k < 0) (ev_4 : v_4 = f k.toNatClampNeg) (ev_5 : v_5 = k + 1) (ev_6 : v_6 = f v_5.toNatClampNeg) (c_7 : v_4 ≤ v_6) (c_8 : 0 ≤ k) (ev_9 : v_9 = ln - 1) (hn_47 : k2.toNatClampNeg < n_47 + 1) (h0k : 0 ≤ k) (h2k : k2 < ln) (h3k : k ≤ k2) (hsj : sj f k.toNatClampNeg k2.toNatClampNeg = sj f k.toNatClampNeg (ln.toNatClampNeg - 1)) (c_10 : k2 ≤ k) : vp_in k2 10 := by
  exact vi_in (M := 10) rfl (by grind) (by grind)
set_option maxHeartbeats 1000000 in
theorem pf_X2_toNext_10 (ln : Int32) (f : Nat → Int32) (v_1 : Int32) (n_7 : Nat) (k : Int32) (v_4 : Int32) (v_5 : Int32) (v_6 : Int32) (v_9 : Int32) (n_47 : Nat) (k2 : Int32) (f2_13 : Nat → Int32) (v_15 : Int32) (v_16 : Int32) (n_91 : Nat) (k3 : Int32) (k4 : Int32) (fa : Nat → Int32) (hl0 : 0 ≤ ln) (hl1 : ln ≤ 10) (hr0 : okRow f ln) (ev_1 : v_1 = ln - 2) (hn_7 : (k + 1).toNatClampNeg < n_7 + 1) (h1k : k < ln - 1) (hlo : -2 ≤ k) (hpv : pv f (k + 1).toNatClampNeg = pv f (ln.toNatClampNeg - 1)) (c_2 : ¬ k < 0) (ev_4 : v_4 = f k.toNatClampNeg) (ev_5 : v_5 = k + 1) (ev_6 : v_6 = f v_5.toNatClampNeg) (c_7 : v_4 ≤ v_6) (c_8 : 0 ≤ k) (ev_9 : v_9 = ln - 1) (hn_47 : k2.toNatClampNeg < n_47 + 1) (h0k : 0 ≤ k) (h2k : k2 < ln) (h3k : k ≤ k2) (hsj : sj f k.toNatClampNeg k2.toNatClampNeg = sj f k.toNatClampNeg (ln.toNatClampNeg - 1)) (c_10 : k2 ≤ k) (w_12 : f2_13 = upd (upd f k.toNatClampNeg (f k2.toNatClampNeg)) k2.toNatClampNeg (f k.toNatClampNeg)) (ev_15 : v_15 = k + 1) (ev_16 : v_16 = ln - 1) (hn_91 : 10 - k3.toNatClampNeg < n_91 + 1) (h4k : 1 ≤ k3) (h5k : k4 < ln) (h6k : k3 ≤ 20) (hra : okRow fa ln) (hl3 : k + 1 ≤ k3) (hsm : k3 + k4 = k + ln) (h34 : k3 ≤ k4 + 1) (hfa : fa = rvP f2_13 (k + 1).toNatClampNeg (ln.toNatClampNeg - 1) k3.toNatClampNeg k4.toNatClampNeg) (c_17 : k4 ≤ k3) : okRow fa ln := by
  first
  | (grind)
  | (first
     | exact hr0
     | exact hra)
set_option maxHeartbeats 1000000 in
theorem pf_X2_toNext_11 (ln : Int32) (f : Nat → Int32) (v_1 : Int32) (n_7 : Nat) (k : Int32) (v_4 : Int32) (v_5 : Int32) (v_6 : Int32) (v_9 : Int32) (n_47 : Nat) (k2 : Int32) (f2_13 : Nat → Int32) (v_15 : Int32) (v_16 : Int32) (n_91 : Nat) (k3 : Int32) (k4 : Int32) (fa : Nat → Int32) (hl0 : 0 ≤ ln) (hl1 : ln ≤ 10) (hr0 : okRow f ln) (ev_1 : v_1 = ln - 2) (hn_7 : (k + 1).toNatClampNeg < n_7 + 1) (h1k : k < ln - 1) (hlo : -2 ≤ k) (hpv : pv f (k + 1).toNatClampNeg = pv f (ln.toNatClampNeg - 1)) (c_2 : ¬ k < 0) (ev_4 : v_4 = f k.toNatClampNeg) (ev_5 : v_5 = k + 1) (ev_6 : v_6 = f v_5.toNatClampNeg) (c_7 : v_4 ≤ v_6) (c_8 : 0 ≤ k) (ev_9 : v_9 = ln - 1) (hn_47 : k2.toNatClampNeg < n_47 + 1) (h0k : 0 ≤ k) (h2k : k2 < ln) (h3k : k ≤ k2) (hsj : sj f k.toNatClampNeg k2.toNatClampNeg = sj f k.toNatClampNeg (ln.toNatClampNeg - 1)) (c_10 : k2 ≤ k) (w_12 : f2_13 = upd (upd f k.toNatClampNeg (f k2.toNatClampNeg)) k2.toNatClampNeg (f k.toNatClampNeg)) (ev_15 : v_15 = k + 1) (ev_16 : v_16 = ln - 1) (hn_91 : 10 - k3.toNatClampNeg < n_91 + 1) (h4k : 1 ≤ k3) (h5k : k4 < ln) (h6k : k3 ≤ 20) (hra : okRow fa ln) (hl3 : k + 1 ≤ k3) (hsm : k3 + k4 = k + ln) (h34 : k3 ≤ k4 + 1) (hfa : fa = rvP f2_13 (k + 1).toNatClampNeg (ln.toNatClampNeg - 1) k3.toNatClampNeg k4.toNatClampNeg) (c_17 : k4 ≤ k3) : ((1 : Int32) = 0 ↔ pv f (ln.toNatClampNeg - 1) = 0) := by
  have h9 := pv_h (f := f) h0k (by grind) (by grind) hpv
  rw [h9]
  constructor
  · intro q
    exact absurd q (by decide)
  · intro q
    omega
set_option maxHeartbeats 1000000 in
theorem pf_X2_toNext_12 (ln : Int32) (f : Nat → Int32) (v_1 : Int32) (n_7 : Nat) (k : Int32) (v_4 : Int32) (v_5 : Int32) (v_6 : Int32) (v_9 : Int32) (n_47 : Nat) (k2 : Int32) (f2_13 : Nat → Int32) (v_15 : Int32) (v_16 : Int32) (n_91 : Nat) (k3 : Int32) (k4 : Int32) (fa : Nat → Int32) (hl0 : 0 ≤ ln) (hl1 : ln ≤ 10) (hr0 : okRow f ln) (ev_1 : v_1 = ln - 2) (hn_7 : (k + 1).toNatClampNeg < n_7 + 1) (h1k : k < ln - 1) (hlo : -2 ≤ k) (hpv : pv f (k + 1).toNatClampNeg = pv f (ln.toNatClampNeg - 1)) (c_2 : ¬ k < 0) (ev_4 : v_4 = f k.toNatClampNeg) (ev_5 : v_5 = k + 1) (ev_6 : v_6 = f v_5.toNatClampNeg) (c_7 : v_4 ≤ v_6) (c_8 : 0 ≤ k) (ev_9 : v_9 = ln - 1) (hn_47 : k2.toNatClampNeg < n_47 + 1) (h0k : 0 ≤ k) (h2k : k2 < ln) (h3k : k ≤ k2) (hsj : sj f k.toNatClampNeg k2.toNatClampNeg = sj f k.toNatClampNeg (ln.toNatClampNeg - 1)) (c_10 : k2 ≤ k) (w_12 : f2_13 = upd (upd f k.toNatClampNeg (f k2.toNatClampNeg)) k2.toNatClampNeg (f k.toNatClampNeg)) (ev_15 : v_15 = k + 1) (ev_16 : v_16 = ln - 1) (hn_91 : 10 - k3.toNatClampNeg < n_91 + 1) (h4k : 1 ≤ k3) (h5k : k4 < ln) (h6k : k3 ≤ 20) (hra : okRow fa ln) (hl3 : k + 1 ≤ k3) (hsm : k3 + k4 = k + ln) (h34 : k3 ≤ k4 + 1) (hfa : fa = rvP f2_13 (k + 1).toNatClampNeg (ln.toNatClampNeg - 1) k3.toNatClampNeg k4.toNatClampNeg) (c_17 : k4 ≤ k3) : (¬ (1 : Int32) = 0 → fa = nxF f ln.toNatClampNeg) := by
  intro _
  exact nx_end hl1 h0k h1k (pv_h (f := f) h0k (by grind) (by grind) hpv) (sj_h (by grind) hsj) (by assumption) hl3 (by grind) h5k hsm h34 hfa
set_option maxHeartbeats 1000000 in
theorem pf_X2_toNext_13 (ln : Int32) (f : Nat → Int32) (v_1 : Int32) (n_7 : Nat) (k : Int32) (v_4 : Int32) (v_5 : Int32) (v_6 : Int32) (v_9 : Int32) (n_47 : Nat) (k2 : Int32) (f2_13 : Nat → Int32) (v_15 : Int32) (v_16 : Int32) (n_91 : Nat) (k3 : Int32) (k4 : Int32) (fa : Nat → Int32) (hl0 : 0 ≤ ln) (hl1 : ln ≤ 10) (hr0 : okRow f ln) (ev_1 : v_1 = ln - 2) (hn_7 : (k + 1).toNatClampNeg < n_7 + 1) (h1k : k < ln - 1) (hlo : -2 ≤ k) (hpv : pv f (k + 1).toNatClampNeg = pv f (ln.toNatClampNeg - 1)) (c_2 : ¬ k < 0) (ev_4 : v_4 = f k.toNatClampNeg) (ev_5 : v_5 = k + 1) (ev_6 : v_6 = f v_5.toNatClampNeg) (c_7 : v_4 ≤ v_6) (c_8 : 0 ≤ k) (ev_9 : v_9 = ln - 1) (hn_47 : k2.toNatClampNeg < n_47 + 1) (h0k : 0 ≤ k) (h2k : k2 < ln) (h3k : k ≤ k2) (hsj : sj f k.toNatClampNeg k2.toNatClampNeg = sj f k.toNatClampNeg (ln.toNatClampNeg - 1)) (c_10 : k2 ≤ k) (w_12 : f2_13 = upd (upd f k.toNatClampNeg (f k2.toNatClampNeg)) k2.toNatClampNeg (f k.toNatClampNeg)) (ev_15 : v_15 = k + 1) (ev_16 : v_16 = ln - 1) (hn_91 : 10 - k3.toNatClampNeg < n_91 + 1) (h4k : 1 ≤ k3) (h5k : k4 < ln) (h6k : k3 ≤ 20) (hra : okRow fa ln) (hl3 : k + 1 ≤ k3) (hsm : k3 + k4 = k + ln) (h34 : k3 ≤ k4 + 1) (hfa : fa = rvP f2_13 (k + 1).toNatClampNeg (ln.toNatClampNeg - 1) k3.toNatClampNeg k4.toNatClampNeg) (c_17 : ¬ k4 ≤ k3) : vp_in k3 10 := by
  exact vi_in (M := 10) rfl (by grind) (by grind)
set_option maxHeartbeats 1000000 in
theorem pf_X2_toNext_14 (ln : Int32) (f : Nat → Int32) (v_1 : Int32) (n_7 : Nat) (k : Int32) (v_4 : Int32) (v_5 : Int32) (v_6 : Int32) (v_9 : Int32) (n_47 : Nat) (k2 : Int32) (f2_13 : Nat → Int32) (v_15 : Int32) (v_16 : Int32) (n_91 : Nat) (k3 : Int32) (k4 : Int32) (fa : Nat → Int32) (hl0 : 0 ≤ ln) (hl1 : ln ≤ 10) (hr0 : okRow f ln) (ev_1 : v_1 = ln - 2) (hn_7 : (k + 1).toNatClampNeg < n_7 + 1) (h1k : k < ln - 1) (hlo : -2 ≤ k) (hpv : pv f (k + 1).toNatClampNeg = pv f (ln.toNatClampNeg - 1)) (c_2 : ¬ k < 0) (ev_4 : v_4 = f k.toNatClampNeg) (ev_5 : v_5 = k + 1) (ev_6 : v_6 = f v_5.toNatClampNeg) (c_7 : v_4 ≤ v_6) (c_8 : 0 ≤ k) (ev_9 : v_9 = ln - 1) (hn_47 : k2.toNatClampNeg < n_47 + 1) (h0k : 0 ≤ k) (h2k : k2 < ln) (h3k : k ≤ k2) (hsj : sj f k.toNatClampNeg k2.toNatClampNeg = sj f k.toNatClampNeg (ln.toNatClampNeg - 1)) (c_10 : k2 ≤ k) (w_12 : f2_13 = upd (upd f k.toNatClampNeg (f k2.toNatClampNeg)) k2.toNatClampNeg (f k.toNatClampNeg)) (ev_15 : v_15 = k + 1) (ev_16 : v_16 = ln - 1) (hn_91 : 10 - k3.toNatClampNeg < n_91 + 1) (h4k : 1 ≤ k3) (h5k : k4 < ln) (h6k : k3 ≤ 20) (hra : okRow fa ln) (hl3 : k + 1 ≤ k3) (hsm : k3 + k4 = k + ln) (h34 : k3 ≤ k4 + 1) (hfa : fa = rvP f2_13 (k + 1).toNatClampNeg (ln.toNatClampNeg - 1) k3.toNatClampNeg k4.toNatClampNeg) (c_17 : ¬ k4 ≤ k3) : vp_in k4 10 := by
  exact vi_in (M := 10) rfl (by grind) (by grind)
set_option maxHeartbeats 1000000 in
theorem pf_X2_toNext_15 (ln : Int32) (f : Nat → Int32) (v_1 : Int32) (n_7 : Nat) (k : Int32) (v_4 : Int32) (v_5 : Int32) (v_6 : Int32) (v_9 : Int32) (n_47 : Nat) (k2 : Int32) (f2_13 : Nat → Int32) (v_15 : Int32) (v_16 : Int32) (n_91 : Nat) (k3 : Int32) (k4 : Int32) (fa : Nat → Int32) (f2_20 : Nat → Int32) (v_22 : Int32) (v_23 : Int32) (hl0 : 0 ≤ ln) (hl1 : ln ≤ 10) (hr0 : okRow f ln) (ev_1 : v_1 = ln - 2) (hn_7 : (k + 1).toNatClampNeg < n_7 + 1) (h1k : k < ln - 1) (hlo : -2 ≤ k) (hpv : pv f (k + 1).toNatClampNeg = pv f (ln.toNatClampNeg - 1)) (c_2 : ¬ k < 0) (ev_4 : v_4 = f k.toNatClampNeg) (ev_5 : v_5 = k + 1) (ev_6 : v_6 = f v_5.toNatClampNeg) (c_7 : v_4 ≤ v_6) (c_8 : 0 ≤ k) (ev_9 : v_9 = ln - 1) (hn_47 : k2.toNatClampNeg < n_47 + 1) (h0k : 0 ≤ k) (h2k : k2 < ln) (h3k : k ≤ k2) (hsj : sj f k.toNatClampNeg k2.toNatClampNeg = sj f k.toNatClampNeg (ln.toNatClampNeg - 1)) (c_10 : k2 ≤ k) (w_12 : f2_13 = upd (upd f k.toNatClampNeg (f k2.toNatClampNeg)) k2.toNatClampNeg (f k.toNatClampNeg)) (ev_15 : v_15 = k + 1) (ev_16 : v_16 = ln - 1) (hn_91 : 10 - k3.toNatClampNeg < n_91 + 1) (h4k : 1 ≤ k3) (h5k : k4 < ln) (h6k : k3 ≤ 20) (hra : okRow fa ln) (hl3 : k + 1 ≤ k3) (hsm : k3 + k4 = k + ln) (h34 : k3 ≤ k4 + 1) (hfa : fa = rvP f2_13 (k + 1).toNatClampNeg (ln.toNatClampNeg - 1) k3.toNatClampNeg k4.toNatClampNeg) (c_17 : ¬ k4 ≤ k3) (w_19 : f2_20 = upd (upd fa k3.toNatClampNeg (fa k4.toNatClampNeg)) k4.toNatClampNeg (fa k3.toNatClampNeg)) (ev_22 : v_22 = k3 + 1) (ev_23 : v_23 = k4 + (-1)) : 10 - v_22.toNatClampNeg < n_91 := by
  exact ms_dec (L := 10) (k := k3) (by grind) (show ¬ (10 : Int32) ≤ k3 by grind) (by omega) (by assumption) hn_91
set_option maxHeartbeats 1000000 in
theorem pf_X2_toNext_16 (ln : Int32) (f : Nat → Int32) (v_1 : Int32) (n_7 : Nat) (k : Int32) (v_4 : Int32) (v_5 : Int32) (v_6 : Int32) (v_9 : Int32) (n_47 : Nat) (k2 : Int32) (f2_13 : Nat → Int32) (v_15 : Int32) (v_16 : Int32) (n_91 : Nat) (k3 : Int32) (k4 : Int32) (fa : Nat → Int32) (f2_20 : Nat → Int32) (v_22 : Int32) (v_23 : Int32) (hl0 : 0 ≤ ln) (hl1 : ln ≤ 10) (hr0 : okRow f ln) (ev_1 : v_1 = ln - 2) (hn_7 : (k + 1).toNatClampNeg < n_7 + 1) (h1k : k < ln - 1) (hlo : -2 ≤ k) (hpv : pv f (k + 1).toNatClampNeg = pv f (ln.toNatClampNeg - 1)) (c_2 : ¬ k < 0) (ev_4 : v_4 = f k.toNatClampNeg) (ev_5 : v_5 = k + 1) (ev_6 : v_6 = f v_5.toNatClampNeg) (c_7 : v_4 ≤ v_6) (c_8 : 0 ≤ k) (ev_9 : v_9 = ln - 1) (hn_47 : k2.toNatClampNeg < n_47 + 1) (h0k : 0 ≤ k) (h2k : k2 < ln) (h3k : k ≤ k2) (hsj : sj f k.toNatClampNeg k2.toNatClampNeg = sj f k.toNatClampNeg (ln.toNatClampNeg - 1)) (c_10 : k2 ≤ k) (w_12 : f2_13 = upd (upd f k.toNatClampNeg (f k2.toNatClampNeg)) k2.toNatClampNeg (f k.toNatClampNeg)) (ev_15 : v_15 = k + 1) (ev_16 : v_16 = ln - 1) (hn_91 : 10 - k3.toNatClampNeg < n_91 + 1) (h4k : 1 ≤ k3) (h5k : k4 < ln) (h6k : k3 ≤ 20) (hra : okRow fa ln) (hl3 : k + 1 ≤ k3) (hsm : k3 + k4 = k + ln) (h34 : k3 ≤ k4 + 1) (hfa : fa = rvP f2_13 (k + 1).toNatClampNeg (ln.toNatClampNeg - 1) k3.toNatClampNeg k4.toNatClampNeg) (c_17 : ¬ k4 ≤ k3) (w_19 : f2_20 = upd (upd fa k3.toNatClampNeg (fa k4.toNatClampNeg)) k4.toNatClampNeg (fa k3.toNatClampNeg)) (ev_22 : v_22 = k3 + 1) (ev_23 : v_23 = k4 + (-1)) : 1 ≤ v_22 := by
  grind
set_option maxHeartbeats 1000000 in
theorem pf_X2_toNext_17 (ln : Int32) (f : Nat → Int32) (v_1 : Int32) (n_7 : Nat) (k : Int32) (v_4 : Int32) (v_5 : Int32) (v_6 : Int32) (v_9 : Int32) (n_47 : Nat) (k2 : Int32) (f2_13 : Nat → Int32) (v_15 : Int32) (v_16 : Int32) (n_91 : Nat) (k3 : Int32) (k4 : Int32) (fa : Nat → Int32) (f2_20 : Nat → Int32) (v_22 : Int32) (v_23 : Int32) (hl0 : 0 ≤ ln) (hl1 : ln ≤ 10) (hr0 : okRow f ln) (ev_1 : v_1 = ln - 2) (hn_7 : (k + 1).toNatClampNeg < n_7 + 1) (h1k : k < ln - 1) (hlo : -2 ≤ k) (hpv : pv f (k + 1).toNatClampNeg = pv f (ln.toNatClampNeg - 1)) (c_2 : ¬ k < 0) (ev_4 : v_4 = f k.toNatClampNeg) (ev_5 : v_5 = k + 1) (ev_6 : v_6 = f v_5.toNatClampNeg) (c_7 : v_4 ≤ v_6) (c_8 : 0 ≤ k) (ev_9 : v_9 = ln - 1) (hn_47 : k2.toNatClampNeg < n_47 + 1) (h0k : 0 ≤ k) (h2k : k2 < ln) (h3k : k ≤ k2) (hsj : sj f k.toNatClampNeg k2.toNatClampNeg = sj f k.toNatClampNeg (ln.toNatClampNeg - 1)) (c_10 : k2 ≤ k) (w_12 : f2_13 = upd (upd f k.toNatClampNeg (f k2.toNatClampNeg)) k2.toNatClampNeg (f k.toNatClampNeg)) (ev_15 : v_15 = k + 1) (ev_16 : v_16 = ln - 1) (hn_91 : 10 - k3.toNatClampNeg < n_91 + 1) (h4k : 1 ≤ k3) (h5k : k4 < ln) (h6k : k3 ≤ 20) (hra : okRow fa ln) (hl3 : k + 1 ≤ k3) (hsm : k3 + k4 = k + ln) (h34 : k3 ≤ k4 + 1) (hfa : fa = rvP f2_13 (k + 1).toNatClampNeg (ln.toNatClampNeg - 1) k3.toNatClampNeg k4.toNatClampNeg) (c_17 : ¬ k4 ≤ k3) (w_19 : f2_20 = upd (upd fa k3.toNatClampNeg (fa k4.toNatClampNeg)) k4.toNatClampNeg (fa k3.toNatClampNeg)) (ev_22 : v_22 = k3 + 1) (ev_23 : v_23 = k4 + (-1)) : v_23 < ln := by
  grind
set_option maxHeartbeats 1000000 in
theorem pf_X2_toNext_18 (ln : Int32) (f : Nat → Int32) (v_1 : Int32) (n_7 : Nat) (k : Int32) (v_4 : Int32) (v_5 : Int32) (v_6 : Int32) (v_9 : Int32) (n_47 : Nat) (k2 : Int32) (f2_13 : Nat → Int32) (v_15 : Int32) (v_16 : Int32) (n_91 : Nat) (k3 : Int32) (k4 : Int32) (fa : Nat → Int32) (f2_20 : Nat → Int32) (v_22 : Int32) (v_23 : Int32) (hl0 : 0 ≤ ln) (hl1 : ln ≤ 10) (hr0 : okRow f ln) (ev_1 : v_1 = ln - 2) (hn_7 : (k + 1).toNatClampNeg < n_7 + 1) (h1k : k < ln - 1) (hlo : -2 ≤ k) (hpv : pv f (k + 1).toNatClampNeg = pv f (ln.toNatClampNeg - 1)) (c_2 : ¬ k < 0) (ev_4 : v_4 = f k.toNatClampNeg) (ev_5 : v_5 = k + 1) (ev_6 : v_6 = f v_5.toNatClampNeg) (c_7 : v_4 ≤ v_6) (c_8 : 0 ≤ k) (ev_9 : v_9 = ln - 1) (hn_47 : k2.toNatClampNeg < n_47 + 1) (h0k : 0 ≤ k) (h2k : k2 < ln) (h3k : k ≤ k2) (hsj : sj f k.toNatClampNeg k2.toNatClampNeg = sj f k.toNatClampNeg (ln.toNatClampNeg - 1)) (c_10 : k2 ≤ k) (w_12 : f2_13 = upd (upd f k.toNatClampNeg (f k2.toNatClampNeg)) k2.toNatClampNeg (f k.toNatClampNeg)) (ev_15 : v_15 = k + 1) (ev_16 : v_16 = ln - 1) (hn_91 : 10 - k3.toNatClampNeg < n_91 + 1) (h4k : 1 ≤ k3) (h5k : k4 < ln) (h6k : k3 ≤ 20) (hra : okRow fa ln) (hl3 : k + 1 ≤ k3) (hsm : k3 + k4 = k + ln) (h34 : k3 ≤ k4 + 1) (hfa : fa = rvP f2_13 (k + 1).toNatClampNeg (ln.toNatClampNeg - 1) k3.toNatClampNeg k4.toNatClampNeg) (c_17 : ¬ k4 ≤ k3) (w_19 : f2_20 = upd (upd fa k3.toNatClampNeg (fa k4.toNatClampNeg)) k4.toNatClampNeg (fa k3.toNatClampNeg)) (ev_22 : v_22 = k3 + 1) (ev_23 : v_23 = k4 + (-1)) : v_22 ≤ 20 := by
  grind
set_option maxHeartbeats 1000000 in
theorem pf_X2_toNext_19 (ln : Int32) (f : Nat → Int32) (v_1 : Int32) (n_7 : Nat) (k : Int32) (v_4 : Int32) (v_5 : Int32) (v_6 : Int32) (v_9 : Int32) (n_47 : Nat) (k2 : Int32) (f2_13 : Nat → Int32) (v_15 : Int32) (v_16 : Int32) (n_91 : Nat) (k3 : Int32) (k4 : Int32) (fa : Nat → Int32) (f2_20 : Nat → Int32) (v_22 : Int32) (v_23 : Int32) (hl0 : 0 ≤ ln) (hl1 : ln ≤ 10) (hr0 : okRow f ln) (ev_1 : v_1 = ln - 2) (hn_7 : (k + 1).toNatClampNeg < n_7 + 1) (h1k : k < ln - 1) (hlo : -2 ≤ k) (hpv : pv f (k + 1).toNatClampNeg = pv f (ln.toNatClampNeg - 1)) (c_2 : ¬ k < 0) (ev_4 : v_4 = f k.toNatClampNeg) (ev_5 : v_5 = k + 1) (ev_6 : v_6 = f v_5.toNatClampNeg) (c_7 : v_4 ≤ v_6) (c_8 : 0 ≤ k) (ev_9 : v_9 = ln - 1) (hn_47 : k2.toNatClampNeg < n_47 + 1) (h0k : 0 ≤ k) (h2k : k2 < ln) (h3k : k ≤ k2) (hsj : sj f k.toNatClampNeg k2.toNatClampNeg = sj f k.toNatClampNeg (ln.toNatClampNeg - 1)) (c_10 : k2 ≤ k) (w_12 : f2_13 = upd (upd f k.toNatClampNeg (f k2.toNatClampNeg)) k2.toNatClampNeg (f k.toNatClampNeg)) (ev_15 : v_15 = k + 1) (ev_16 : v_16 = ln - 1) (hn_91 : 10 - k3.toNatClampNeg < n_91 + 1) (h4k : 1 ≤ k3) (h5k : k4 < ln) (h6k : k3 ≤ 20) (hra : okRow fa ln) (hl3 : k + 1 ≤ k3) (hsm : k3 + k4 = k + ln) (h34 : k3 ≤ k4 + 1) (hfa : fa = rvP f2_13 (k + 1).toNatClampNeg (ln.toNatClampNeg - 1) k3.toNatClampNeg k4.toNatClampNeg) (c_17 : ¬ k4 ≤ k3) (w_19 : f2_20 = upd (upd fa k3.toNatClampNeg (fa k4.toNatClampNeg)) k4.toNatClampNeg (fa k3.toNatClampNeg)) (ev_22 : v_22 = k3 + 1) (ev_23 : v_23 = k4 + (-1)) : okRow f2_20 ln := by
  have h8 := okRow_at hra (k := k3) (by grind) (by grind)
  have h9 := okRow_at hra (k := k4) (by grind) (by grind)
  subst_vars
  exact okRow_upd (okRow_upd hra h9.1 h9.2) h8.1 h8.2
set_option maxHeartbeats 1000000 in
theorem pf_X2_toNext_20 (ln : Int32) (f : Nat → Int32) (v_1 : Int32) (n_7 : Nat) (k : Int32) (v_4 : Int32) (v_5 : Int32) (v_6 : Int32) (v_9 : Int32) (n_47 : Nat) (k2 : Int32) (f2_13 : Nat → Int32) (v_15 : Int32) (v_16 : Int32) (n_91 : Nat) (k3 : Int32) (k4 : Int32) (fa : Nat → Int32) (f2_20 : Nat → Int32) (v_22 : Int32) (v_23 : Int32) (hl0 : 0 ≤ ln) (hl1 : ln ≤ 10) (hr0 : okRow f ln) (ev_1 : v_1 = ln - 2) (hn_7 : (k + 1).toNatClampNeg < n_7 + 1) (h1k : k < ln - 1) (hlo : -2 ≤ k) (hpv : pv f (k + 1).toNatClampNeg = pv f (ln.toNatClampNeg - 1)) (c_2 : ¬ k < 0) (ev_4 : v_4 = f k.toNatClampNeg) (ev_5 : v_5 = k + 1) (ev_6 : v_6 = f v_5.toNatClampNeg) (c_7 : v_4 ≤ v_6) (c_8 : 0 ≤ k) (ev_9 : v_9 = ln - 1) (hn_47 : k2.toNatClampNeg < n_47 + 1) (h0k : 0 ≤ k) (h2k : k2 < ln) (h3k : k ≤ k2) (hsj : sj f k.toNatClampNeg k2.toNatClampNeg = sj f k.toNatClampNeg (ln.toNatClampNeg - 1)) (c_10 : k2 ≤ k) (w_12 : f2_13 = upd (upd f k.toNatClampNeg (f k2.toNatClampNeg)) k2.toNatClampNeg (f k.toNatClampNeg)) (ev_15 : v_15 = k + 1) (ev_16 : v_16 = ln - 1) (hn_91 : 10 - k3.toNatClampNeg < n_91 + 1) (h4k : 1 ≤ k3) (h5k : k4 < ln) (h6k : k3 ≤ 20) (hra : okRow fa ln) (hl3 : k + 1 ≤ k3) (hsm : k3 + k4 = k + ln) (h34 : k3 ≤ k4 + 1) (hfa : fa = rvP f2_13 (k + 1).toNatClampNeg (ln.toNatClampNeg - 1) k3.toNatClampNeg k4.toNatClampNeg) (c_17 : ¬ k4 ≤ k3) (w_19 : f2_20 = upd (upd fa k3.toNatClampNeg (fa k4.toNatClampNeg)) k4.toNatClampNeg (fa k3.toNatClampNeg)) (ev_22 : v_22 = k3 + 1) (ev_23 : v_23 = k4 + (-1)) : k + 1 ≤ v_22 := by
  grind
set_option maxHeartbeats 1000000 in
theorem pf_X2_toNext_21 (ln : Int32) (f : Nat → Int32) (v_1 : Int32) (n_7 : Nat) (k : Int32) (v_4 : Int32) (v_5 : Int32) (v_6 : Int32) (v_9 : Int32) (n_47 : Nat) (k2 : Int32) (f2_13 : Nat → Int32) (v_15 : Int32) (v_16 : Int32) (n_91 : Nat) (k3 : Int32) (k4 : Int32) (fa : Nat → Int32) (f2_20 : Nat → Int32) (v_22 : Int32) (v_23 : Int32) (hl0 : 0 ≤ ln) (hl1 : ln ≤ 10) (hr0 : okRow f ln) (ev_1 : v_1 = ln - 2) (hn_7 : (k + 1).toNatClampNeg < n_7 + 1) (h1k : k < ln - 1) (hlo : -2 ≤ k) (hpv : pv f (k + 1).toNatClampNeg = pv f (ln.toNatClampNeg - 1)) (c_2 : ¬ k < 0) (ev_4 : v_4 = f k.toNatClampNeg) (ev_5 : v_5 = k + 1) (ev_6 : v_6 = f v_5.toNatClampNeg) (c_7 : v_4 ≤ v_6) (c_8 : 0 ≤ k) (ev_9 : v_9 = ln - 1) (hn_47 : k2.toNatClampNeg < n_47 + 1) (h0k : 0 ≤ k) (h2k : k2 < ln) (h3k : k ≤ k2) (hsj : sj f k.toNatClampNeg k2.toNatClampNeg = sj f k.toNatClampNeg (ln.toNatClampNeg - 1)) (c_10 : k2 ≤ k) (w_12 : f2_13 = upd (upd f k.toNatClampNeg (f k2.toNatClampNeg)) k2.toNatClampNeg (f k.toNatClampNeg)) (ev_15 : v_15 = k + 1) (ev_16 : v_16 = ln - 1) (hn_91 : 10 - k3.toNatClampNeg < n_91 + 1) (h4k : 1 ≤ k3) (h5k : k4 < ln) (h6k : k3 ≤ 20) (hra : okRow fa ln) (hl3 : k + 1 ≤ k3) (hsm : k3 + k4 = k + ln) (h34 : k3 ≤ k4 + 1) (hfa : fa = rvP f2_13 (k + 1).toNatClampNeg (ln.toNatClampNeg - 1) k3.toNatClampNeg k4.toNatClampNeg) (c_17 : ¬ k4 ≤ k3) (w_19 : f2_20 = upd (upd fa k3.toNatClampNeg (fa k4.toNatClampNeg)) k4.toNatClampNeg (fa k3.toNatClampNeg)) (ev_22 : v_22 = k3 + 1) (ev_23 : v_23 = k4 + (-1)) : v_22 + v_23 = k + ln := by
  grind
set_option maxHeartbeats 1000000 in
theorem pf_X2_toNext_22 (ln : Int32) (f : Nat → Int32) (v_1 : Int32) (n_7 : Nat) (k : Int32) (v_4 : Int32) (v_5 : Int32) (v_6 : Int32) (v_9 : Int32) (n_47 : Nat) (k2 : Int32) (f2_13 : Nat → Int32) (v_15 : Int32) (v_16 : Int32) (n_91 : Nat) (k3 : Int32) (k4 : Int32) (fa : Nat → Int32) (f2_20 : Nat → Int32) (v_22 : Int32) (v_23 : Int32) (hl0 : 0 ≤ ln) (hl1 : ln ≤ 10) (hr0 : okRow f ln) (ev_1 : v_1 = ln - 2) (hn_7 : (k + 1).toNatClampNeg < n_7 + 1) (h1k : k < ln - 1) (hlo : -2 ≤ k) (hpv : pv f (k + 1).toNatClampNeg = pv f (ln.toNatClampNeg - 1)) (c_2 : ¬ k < 0) (ev_4 : v_4 = f k.toNatClampNeg) (ev_5 : v_5 = k + 1) (ev_6 : v_6 = f v_5.toNatClampNeg) (c_7 : v_4 ≤ v_6) (c_8 : 0 ≤ k) (ev_9 : v_9 = ln - 1) (hn_47 : k2.toNatClampNeg < n_47 + 1) (h0k : 0 ≤ k) (h2k : k2 < ln) (h3k : k ≤ k2) (hsj : sj f k.toNatClampNeg k2.toNatClampNeg = sj f k.toNatClampNeg (ln.toNatClampNeg - 1)) (c_10 : k2 ≤ k) (w_12 : f2_13 = upd (upd f k.toNatClampNeg (f k2.toNatClampNeg)) k2.toNatClampNeg (f k.toNatClampNeg)) (ev_15 : v_15 = k + 1) (ev_16 : v_16 = ln - 1) (hn_91 : 10 - k3.toNatClampNeg < n_91 + 1) (h4k : 1 ≤ k3) (h5k : k4 < ln) (h6k : k3 ≤ 20) (hra : okRow fa ln) (hl3 : k + 1 ≤ k3) (hsm : k3 + k4 = k + ln) (h34 : k3 ≤ k4 + 1) (hfa : fa = rvP f2_13 (k + 1).toNatClampNeg (ln.toNatClampNeg - 1) k3.toNatClampNeg k4.toNatClampNeg) (c_17 : ¬ k4 ≤ k3) (w_19 : f2_20 = upd (upd fa k3.toNatClampNeg (fa k4.toNatClampNeg)) k4.toNatClampNeg (fa k3.toNatClampNeg)) (ev_22 : v_22 = k3 + 1) (ev_23 : v_23 = k4 + (-1)) : v_22 ≤ v_23 + 1 := by
  grind
set_option maxHeartbeats 1000000 in
theorem pf_X2_toNext_23 (ln : Int32) (f : Nat → Int32) (v_1 : Int32) (n_7 : Nat) (k : Int32) (v_4 : Int32) (v_5 : Int32) (v_6 : Int32) (v_9 : Int32) (n_47 : Nat) (k2 : Int32) (f2_13 : Nat → Int32) (v_15 : Int32) (v_16 : Int32) (n_91 : Nat) (k3 : Int32) (k4 : Int32) (fa : Nat → Int32) (f2_20 : Nat → Int32) (v_22 : Int32) (v_23 : Int32) (hl0 : 0 ≤ ln) (hl1 : ln ≤ 10) (hr0 : okRow f ln) (ev_1 : v_1 = ln - 2) (hn_7 : (k + 1).toNatClampNeg < n_7 + 1) (h1k : k < ln - 1) (hlo : -2 ≤ k) (hpv : pv f (k + 1).toNatClampNeg = pv f (ln.toNatClampNeg - 1)) (c_2 : ¬ k < 0) (ev_4 : v_4 = f k.toNatClampNeg) (ev_5 : v_5 = k + 1) (ev_6 : v_6 = f v_5.toNatClampNeg) (c_7 : v_4 ≤ v_6) (c_8 : 0 ≤ k) (ev_9 : v_9 = ln - 1) (hn_47 : k2.toNatClampNeg < n_47 + 1) (h0k : 0 ≤ k) (h2k : k2 < ln) (h3k : k ≤ k2) (hsj : sj f k.toNatClampNeg k2.toNatClampNeg = sj f k.toNatClampNeg (ln.toNatClampNeg - 1)) (c_10 : k2 ≤ k) (w_12 : f2_13 = upd (upd f k.toNatClampNeg (f k2.toNatClampNeg)) k2.toNatClampNeg (f k.toNatClampNeg)) (ev_15 : v_15 = k + 1) (ev_16 : v_16 = ln - 1) (hn_91 : 10 - k3.toNatClampNeg < n_91 + 1) (h4k : 1 ≤ k3) (h5k : k4 < ln) (h6k : k3 ≤ 20) (hra : okRow fa ln) (hl3 : k + 1 ≤ k3) (hsm : k3 + k4 = k + ln) (h34 : k3 ≤ k4 + 1) (hfa : fa = rvP f2_13 (k + 1).toNatClampNeg (ln.toNatClampNeg - 1) k3.toNatClampNeg k4.toNatClampNeg) (c_17 : ¬ k4 ≤ k3) (w_19 : f2_20 = upd (upd fa k3.toNatClampNeg (fa k4.toNatClampNeg)) k4.toNatClampNeg (fa k3.toNatClampNeg)) (ev_22 : v_22 = k3 + 1) (ev_23 : v_23 = k4 + (-1)) : f2_20 = rvP f2_13 (k + 1).toNatClampNeg (ln.toNatClampNeg - 1) v_22.toNatClampNeg v_23.toNatClampNeg := by
  exact rv_b hl1 h0k hl3 (by grind) h5k hsm (by grind) (by assumption) (by assumption) (by assumption) hfa
set_option maxHeartbeats 1000000 in
theorem pf_X2_toNext_24 (ln : Int32) (f : Nat → Int32) (v_1 : Int32) (n_7 : Nat) (k : Int32) (v_4 : Int32) (v_5 : Int32) (v_6 : Int32) (v_9 : Int32) (n_47 : Nat) (k2 : Int32) (f2_13 : Nat → Int32) (v_15 : Int32) (v_16 : Int32) (hl0 : 0 ≤ ln) (hl1 : ln ≤ 10) (hr0 : okRow f ln) (ev_1 : v_1 = ln - 2) (hn_7 : (k + 1).toNatClampNeg < n_7 + 1) (h1k : k < ln - 1) (hlo : -2 ≤ k) (hpv : pv f (k + 1).toNatClampNeg = pv f (ln.toNatClampNeg - 1)) (c_2 : ¬ k < 0) (ev_4 : v_4 = f k.toNatClampNeg) (ev_5 : v_5 = k + 1) (ev_6 : v_6 = f v_5.toNatClampNeg) (c_7 : v_4 ≤ v_6) (c_8 : 0 ≤ k) (ev_9 : v_9 = ln - 1) (hn_47 : k2.toNatClampNeg < n_47 + 1) (h0k : 0 ≤ k) (h2k : k2 < ln) (h3k : k ≤ k2) (hsj : sj f k.toNatClampNeg k2.toNatClampNeg = sj f k.toNatClampNeg (ln.toNatClampNeg - 1)) (c_10 : k2 ≤ k) (w_12 : f2_13 = upd (upd f k.toNatClampNeg (f k2.toNatClampNeg)) k2.toNatClampNeg (f k.toNatClampNeg)) (ev_15 : v_15 = k + 1) (ev_16 : v_16 = ln - 1) : 1 ≤ v_15 := by
  grind
set_option maxHeartbeats 1000000 in
theorem pf_X2_toNext_25 (ln : Int32) (f : Nat → Int32) (v_1 : Int32) (n_7 : Nat) (k : Int32) (v_4 : Int32) (v_5 : Int32) (v_6 : Int32) (v_9 : Int32) (n_47 : Nat) (k2 : Int32) (f2_13 : Nat → Int32) (v_15 : Int32) (v_16 : Int32) (hl0 : 0 ≤ ln) (hl1 : ln ≤ 10) (hr0 : okRow f ln) (ev_1 : v_1 = ln - 2) (hn_7 : (k + 1).toNatClampNeg < n_7 + 1) (h1k : k < ln - 1) (hlo : -2 ≤ k) (hpv : pv f (k + 1).toNatClampNeg = pv f (ln.toNatClampNeg - 1)) (c_2 : ¬ k < 0) (ev_4 : v_4 = f k.toNatClampNeg) (ev_5 : v_5 = k + 1) (ev_6 : v_6 = f v_5.toNatClampNeg) (c_7 : v_4 ≤ v_6) (c_8 : 0 ≤ k) (ev_9 : v_9 = ln - 1) (hn_47 : k2.toNatClampNeg < n_47 + 1) (h0k : 0 ≤ k) (h2k : k2 < ln) (h3k : k ≤ k2) (hsj : sj f k.toNatClampNeg k2.toNatClampNeg = sj f k.toNatClampNeg (ln.toNatClampNeg - 1)) (c_10 : k2 ≤ k) (w_12 : f2_13 = upd (upd f k.toNatClampNeg (f k2.toNatClampNeg)) k2.toNatClampNeg (f k.toNatClampNeg)) (ev_15 : v_15 = k + 1) (ev_16 : v_16 = ln - 1) : v_16 < ln := by
  grind
set_option maxHeartbeats 1000000 in
theorem pf_X2_toNext_26 (ln : Int32) (f : Nat → Int32) (v_1 : Int32) (n_7 : Nat) (k : Int32) (v_4 : Int32) (v_5 : Int32) (v_6 : Int32) (v_9 : Int32) (n_47 : Nat) (k2 : Int32) (f2_13 : Nat → Int32) (v_15 : Int32) (v_16 : Int32) (hl0 : 0 ≤ ln) (hl1 : ln ≤ 10) (hr0 : okRow f ln) (ev_1 : v_1 = ln - 2) (hn_7 : (k + 1).toNatClampNeg < n_7 + 1) (h1k : k < ln - 1) (hlo : -2 ≤ k) (hpv : pv f (k + 1).toNatClampNeg = pv f (ln.toNatClampNeg - 1)) (c_2 : ¬ k < 0) (ev_4 : v_4 = f k.toNatClampNeg) (ev_5 : v_5 = k + 1) (ev_6 : v_6 = f v_5.toNatClampNeg) (c_7 : v_4 ≤ v_6) (c_8 : 0 ≤ k) (ev_9 : v_9 = ln - 1) (hn_47 : k2.toNatClampNeg < n_47 + 1) (h0k : 0 ≤ k) (h2k : k2 < ln) (h3k : k ≤ k2) (hsj : sj f k.toNatClampNeg k2.toNatClampNeg = sj f k.toNatClampNeg (ln.toNatClampNeg - 1)) (c_10 : k2 ≤ k) (w_12 : f2_13 = upd (upd f k.toNatClampNeg (f k2.toNatClampNeg)) k2.toNatClampNeg (f k.toNatClampNeg)) (ev_15 : v_15 = k + 1) (ev_16 : v_16 = ln - 1) : v_15 ≤ 20 := by
  grind
set_option maxHeartbeats 1000000 in
theorem pf_X2_toNext_27 (ln : Int32) (f : Nat → Int32) (v_1 : Int32) (n_7 : Nat) (k : Int32) (v_4 : Int32) (v_5 : Int32) (v_6 : Int32) (v_9 : Int32) (n_47 : Nat) (k2 : Int32) (f2_13 : Nat → Int32) (v_15 : Int32) (v_16 : Int32) (hl0 : 0 ≤ ln) (hl1 : ln ≤ 10) (hr0 : okRow f ln) (ev_1 : v_1 = ln - 2) (hn_7 : (k + 1).toNatClampNeg < n_7 + 1) (h1k : k < ln - 1) (hlo : -2 ≤ k) (hpv : pv f (k + 1).toNatClampNeg = pv f (ln.toNatClampNeg - 1)) (c_2 : ¬ k < 0) (ev_4 : v_4 = f k.toNatClampNeg) (ev_5 : v_5 = k + 1) (ev_6 : v_6 = f v_5.toNatClampNeg) (c_7 : v_4 ≤ v_6) (c_8 : 0 ≤ k) (ev_9 : v_9 = ln - 1) (hn_47 : k2.toNatClampNeg < n_47 + 1) (h0k : 0 ≤ k) (h2k : k2 < ln) (h3k : k ≤ k2) (hsj : sj f k.toNatClampNeg k2.toNatClampNeg = sj f k.toNatClampNeg (ln.toNatClampNeg - 1)) (c_10 : k2 ≤ k) (w_12 : f2_13 = upd (upd f k.toNatClampNeg (f k2.toNatClampNeg)) k2.toNatClampNeg (f k.toNatClampNeg)) (ev_15 : v_15 = k + 1) (ev_16 : v_16 = ln - 1) : okRow f2_13 ln := by
  have h8 := okRow_at hr0 (k := k) (by grind) (by grind)
  have h9 := okRow_at hr0 (k := k2) (by grind) (by grind)
  subst_vars
  exact okRow_upd (okRow_upd hr0 h9.1 h9.2) h8.1 h8.2
set_option maxHeartbeats 1000000 in
theorem pf_X2_toNext_28 (ln : Int32) (f : Nat → Int32) (v_1 : Int32) (n_7 : Nat) (k : Int32) (v_4 : Int32) (v_5 : Int32) (v_6 : Int32) (v_9 : Int32) (n_47 : Nat) (k2 : Int32) (f2_13 : Nat → Int32) (v_15 : Int32) (v_16 : Int32) (hl0 : 0 ≤ ln) (hl1 : ln ≤ 10) (hr0 : okRow f ln) (ev_1 : v_1 = ln - 2) (hn_7 : (k + 1).toNatClampNeg < n_7 + 1) (h1k : k < ln - 1) (hlo : -2 ≤ k) (hpv : pv f (k + 1).toNatClampNeg = pv f (ln.toNatClampNeg - 1)) (c_2 : ¬ k < 0) (ev_4 : v_4 = f k.toNatClampNeg) (ev_5 : v_5 = k + 1) (ev_6 : v_6 = f v_5.toNatClampNeg) (c_7 : v_4 ≤ v_6) (c_8 : 0 ≤ k) (ev_9 : v_9 = ln - 1) (hn_47 : k2.toNatClampNeg < n_47 + 1) (h0k : 0 ≤ k) (h2k : k2 < ln) (h3k : k ≤ k2) (hsj : sj f k.toNatClampNeg k2.toNatClampNeg = sj f k.toNatClampNeg (ln.toNatClampNeg - 1)) (c_10 : k2 ≤ k) (w_12 : f2_13 = upd (upd f k.toNatClampNeg (f k2.toNatClampNeg)) k2.toNatClampNeg (f k.toNatClampNeg)) (ev_15 : v_15 = k + 1) (ev_16 : v_16 = ln - 1) : k + 1 ≤ v_15 := by
  grind
set_option maxHeartbeats 1000000 in
theorem pf_X2_toNext_29 (ln : Int32) (f : Nat → Int32) (v_1 : Int32) (n_7 : Nat) (k : Int32) (v_4 : Int32) (v_5 : Int32) (v_6 : Int32) (v_9 : Int32) (n_47 : Nat) (k2 : Int32) (f2_13 : Nat → Int32) (v_15 : Int32) (v_16 : Int32) (hl0 : 0 ≤ ln) (hl1 : ln ≤ 10) (hr0 : okRow f ln) (ev_1 : v_1 = ln - 2) (hn_7 : (k + 1).toNatClampNeg < n_7 + 1) (h1k : k < ln - 1) (hlo : -2 ≤ k) (hpv : pv f (k + 1).toNatClampNeg = pv f (ln.toNatClampNeg - 1)) (c_2 : ¬ k < 0) (ev_4 : v_4 = f k.toNatClampNeg) (ev_5 : v_5 = k + 1) (ev_6 : v_6 = f v_5.toNatClampNeg) (c_7 : v_4 ≤ v_6) (c_8 : 0 ≤ k) (ev_9 : v_9 = ln - 1) (hn_47 : k2.toNatClampNeg < n_47 + 1) (h0k : 0 ≤ k) (h2k : k2 < ln) (h3k : k ≤ k2) (hsj : sj f k.toNatClampNeg k2.toNatClampNeg = sj f k.toNatClampNeg (ln.toNatClampNeg - 1)) (c_10 : k2 ≤ k) (w_12 : f2_13 = upd (upd f k.toNatClampNeg (f k2.toNatClampNeg)) k2.toNatClampNeg (f k.toNatClampNeg)) (ev_15 : v_15 = k + 1) (ev_16 : v_16 = ln - 1) : v_15 + v_16 = k + ln := by
  grind
set_option maxHeartbeats 1000000 in
theorem pf_X2_toNext_30 (ln : Int32) (f : Nat → Int32) (v_1 : Int32) (n_7 : Nat) (k : Int32) (v_4 : Int32) (v_5 : Int32) (v_6 : Int32) (v_9 : Int32) (n_47 : Nat) (k2 : Int32) (f2_13 : Nat → Int32) (v_15 : Int32) (v_16 : Int32) (hl0 : 0 ≤ ln) (hl1 : ln ≤ 10) (hr0 : okRow f ln) (ev_1 : v_1 = ln - 2) (hn_7 : (k + 1).toNatClampNeg < n_7 + 1) (h1k : k < ln - 1) (hlo : -2 ≤ k) (hpv : pv f (k + 1).toNatClampNeg = pv f (ln.toNatClampNeg - 1)) (c_2 : ¬ k < 0) (ev_4 : v_4 = f k.toNatClampNeg) (ev_5 : v_5 = k + 1) (ev_6 : v_6 = f v_5.toNatClampNeg) (c_7 : v_4 ≤ v_6) (c_8 : 0 ≤ k) (ev_9 : v_9 = ln - 1) (hn_47 : k2.toNatClampNeg < n_47 + 1) (h0k : 0 ≤ k) (h2k : k2 < ln) (h3k : k ≤ k2) (hsj : sj f k.toNatClampNeg k2.toNatClampNeg = sj f k.toNatClampNeg (ln.toNatClampNeg - 1)) (c_10 : k2 ≤ k) (w_12 : f2_13 = upd (upd f k.toNatClampNeg (f k2.toNatClampNeg)) k2.toNatClampNeg (f k.toNatClampNeg)) (ev_15 : v_15 = k + 1) (ev_16 : v_16 = ln - 1) : v_15 ≤ v_16 + 1 := by
  grind
set_option maxHeartbeats 1000000 in
theorem pf_X2_toNext_31 (ln : Int32) (f : Nat → Int32) (v_1 : Int32) (n_7 : Nat) (k : Int32) (v_4 : Int32) (v_5 : Int32) (v_6 : Int32) (v_9 : Int32) (n_47 : Nat) (k2 : Int32) (f2_13 : Nat → Int32) (v_15 : Int32) (v_16 : Int32) (hl0 : 0 ≤ ln) (hl1 : ln ≤ 10) (hr0 : okRow f ln) (ev_1 : v_1 = ln - 2) (hn_7 : (k + 1).toNatClampNeg < n_7 + 1) (h1k : k < ln - 1) (hlo : -2 ≤ k) (hpv : pv f (k + 1).toNatClampNeg = pv f (ln.toNatClampNeg - 1)) (c_2 : ¬ k < 0) (ev_4 : v_4 = f k.toNatClampNeg) (ev_5 : v_5 = k + 1) (ev_6 : v_6 = f v_5.toNatClampNeg) (c_7 : v_4 ≤ v_6) (c_8 : 0 ≤ k) (ev_9 : v_9 = ln - 1) (hn_47 : k2.toNatClampNeg < n_47 + 1) (h0k : 0 ≤ k) (h2k : k2 < ln) (h3k : k ≤ k2) (hsj : sj f k.toNatClampNeg k2.toNatClampNeg = sj f k.toNatClampNeg (ln.toNatClampNeg - 1)) (c_10 : k2 ≤ k) (w_12 : f2_13 = upd (upd f k.toNatClampNeg (f k2.toNatClampNeg)) k2.toNatClampNeg (f k.toNatClampNeg)) (ev_15 : v_15 = k + 1) (ev_16 : v_16 = ln - 1) : f2_13 = rvP f2_13 (k + 1).toNatClampNeg (ln.toNatClampNeg - 1) v_15.toNatClampNeg v_16.toNatClampNeg := by
  exact rv_0 (by grind) (by assumption) (by assumption)
set_option maxHeartbeats 1000000 in
theorem pf_X2_toNext_32 (ln : Int32) (f : Nat → Int32) (v_1 : Int32) (n_7 : Nat) (k : Int32) (v_4 : Int32) (v_5 : Int32) (v_6 : Int32) (v_9 : Int32) (n_47 : Nat) (k2 : Int32) (hl0 : 0 ≤ ln) (hl1 : ln ≤ 10) (hr0 : okRow f ln) (ev_1 : v_1 = ln - 2) (hn_7 : (k + 1).toNatClampNeg < n_7 + 1) (h1k : k < ln - 1) (hlo : -2 ≤ k) (hpv : pv f (k + 1).toNatClampNeg = pv f (ln.toNatClampNeg - 1)) (c_2 : ¬ k < 0) (ev_4 : v_4 = f k.toNatClampNeg) (ev_5 : v_5 = k + 1) (ev_6 : v_6 = f v_5.toNatClampNeg) (c_7 : v_4 ≤ v_6) (c_8 : 0 ≤ k) (ev_9 : v_9 = ln - 1) (hn_47 : k2.toNatClampNeg < n_47 + 1) (h0k : 0 ≤ k) (h2k : k2 < ln) (h3k : k ≤ k2) (hsj : sj f k.toNatClampNeg k2.toNatClampNeg = sj f k.toNatClampNeg (ln.toNatClampNeg - 1)) (c_10 : ¬ k2 ≤ k) : vp_in k2 10 := by
  exact vi_in (M := 10) rfl (by grind) (by grind)
set_option maxHeartbeats 1000000 in
theorem pf_X2_toNext_33 (ln : Int32) (f : Nat → Int32) (v_1 : Int32) (n_7 : Nat) (k : Int32) (v_4 : Int32) (v_5 : Int32) (v_6 : Int32) (v_9 : Int32) (n_47 : Nat) (k2 : Int32) (v_24 : Int32) (hl0 : 0 ≤ ln) (hl1 : ln ≤ 10) (hr0 : okRow f ln) (ev_1 : v_1 = ln - 2) (hn_7 : (k + 1).toNatClampNeg < n_7 + 1) (h1k : k < ln - 1) (hlo : -2 ≤ k) (hpv : pv f (k + 1).toNatClampNeg = pv f (ln.toNatClampNeg - 1)) (c_2 : ¬ k < 0) (ev_4 : v_4 = f k.toNatClampNeg) (ev_5 : v_5 = k + 1) (ev_6 : v_6 = f v_5.toNatClampNeg) (c_7 : v_4 ≤ v_6) (c_8 : 0 ≤ k) (ev_9 : v_9 = ln - 1) (hn_47 : k2.toNatClampNeg < n_47 + 1) (h0k : 0 ≤ k) (h2k : k2 < ln) (h3k : k ≤ k2) (hsj : sj f k.toNatClampNeg k2.toNatClampNeg = sj f k.toNatClampNeg (ln.toNatClampNeg - 1)) (c_10 : ¬ k2 ≤ k) (ev_24 : v_24 = f k2.toNatClampNeg) : vp_in k 10 := by
  exact vi_in (M := 10) rfl (by grind) (by grind)
set_option maxHeartbeats 1000000 in
theorem pf_X2_toNext_34 (ln : Int32) (f : Nat → Int32) (v_1 : Int32) (n_7 : Nat) (k : Int32) (v_4 : Int32) (v_5 : Int32) (v_6 : Int32) (v_9 : Int32) (n_47 : Nat) (k2 : Int32) (v_24 : Int32) (v_25 : Int32) (hl0 : 0 ≤ ln) (hl1 : ln ≤ 10) (hr0 : okRow f ln) (ev_1 : v_1 = ln - 2) (hn_7 : (k + 1).toNatClampNeg < n_7 + 1) (h1k : k < ln - 1) (hlo : -2 ≤ k) (hpv : pv f (k + 1).toNatClampNeg = pv f (ln.toNatClampNeg - 1)) (c_2 : ¬ k < 0) (ev_4 : v_4 = f k.toNatClampNeg) (ev_5 : v_5 = k + 1) (ev_6 : v_6 = f v_5.toNatClampNeg) (c_7 : v_4 ≤ v_6) (c_8 : 0 ≤ k) (ev_9 : v_9 = ln - 1) (hn_47 : k2.toNatClampNeg < n_47 + 1) (h0k : 0 ≤ k) (h2k : k2 < ln) (h3k : k ≤ k2) (hsj : sj f k.toNatClampNeg k2.toNatClampNeg = sj f k.toNatClampNeg (ln.toNatClampNeg - 1)) (c_10 : ¬ k2 ≤ k) (ev_24 : v_24 = f k2.toNatClampNeg) (ev_25 : v_25 = f k.toNatClampNeg) (c_26 : v_25 ≤ v_24) : vp_in k 10 := by
  exact vi_in (M := 10) rfl (by grind) (by grind)
set_option maxHeartbeats 1000000 in
theorem pf_X2_toNext_35 (ln : Int32) (f : Nat → Int32) (v_1 : Int32) (n_7 : Nat) (k : Int32) (v_4 : Int32) (v_5 : Int32) (v_6 : Int32) (v_9 : Int32) (n_47 : Nat) (k2 : Int32) (v_24 : Int32) (v_25 : Int32) (hl0 : 0 ≤ ln) (hl1 : ln ≤ 10) (hr0 : okRow f ln) (ev_1 : v_1 = ln - 2) (hn_7 : (k + 1).toNatClampNeg < n_7 + 1) (h1k : k < ln - 1) (hlo : -2 ≤ k) (hpv : pv f (k + 1).toNatClampNeg = pv f (ln.toNatClampNeg - 1)) (c_2 : ¬ k < 0) (ev_4 : v_4 = f k.toNatClampNeg) (ev_5 : v_5 = k + 1) (ev_6 : v_6 = f v_5.toNatClampNeg) (c_7 : v_4 ≤ v_6) (c_8 : 0 ≤ k) (ev_9 : v_9 = ln - 1) (hn_47 : k2.toNatClampNeg < n_47 + 1) (h0k : 0 ≤ k) (h2k : k2 < ln) (h3k : k ≤ k2) (hsj : sj f k.toNatClampNeg k2.toNatClampNeg = sj f k.toNatClampNeg (ln.toNatClampNeg - 1)) (c_10 : ¬ k2 ≤ k) (ev_24 : v_24 = f k2.toNatClampNeg) (ev_25 : v_25 = f k.toNatClampNeg) (c_26 : v_25 ≤ v_24) : vp_in k2 10 := by
  exact vi_in (M := 10) rfl (by grind) (by grind)
set_option maxHeartbeats 1000000 in
theorem pf_X2_toNext_36 (ln : Int32) (f : Nat → Int32) (v_1 : Int32) (n_7 : Nat) (k : Int32) (v_4 : Int32) (v_5 : Int32) (v_6 : Int32) (v_9 : Int32) (n_47 : Nat) (k2 : Int32) (v_24 : Int32) (v_25 : Int32) (f2_29 : Nat → Int32) (v_31 : Int32) (v_32 : Int32) (n_91 : Nat) (k3 : Int32) (k4 : Int32) (fa : Nat → Int32) (hl0 : 0 ≤ ln) (hl1 : ln ≤ 10) (hr0 : okRow f ln) (ev_1 : v_1 = ln - 2) (hn_7 : (k + 1).toNatClampNeg < n_7 + 1) (h1k : k < ln - 1) (hlo : -2 ≤ k) (hpv : pv f (k + 1).toNatClampNeg = pv f (ln.toNatClampNeg - 1)) (c_2 : ¬ k < 0) (ev_4 : v_4 = f k.toNatClampNeg) (ev_5 : v_5 = k + 1) (ev_6 : v_6 = f v_5.toNatClampNeg) (c_7 : v_4 ≤ v_6) (c_8 : 0 ≤ k) (ev_9 : v_9 = ln - 1) (hn_47 : k2.toNatClampNeg < n_47 + 1) (h0k : 0 ≤ k) (h2k : k2 < ln) (h3k : k ≤ k2) (hsj : sj f k.toNatClampNeg k2.toNatClampNeg = sj f k.toNatClampNeg (ln.toNatClampNeg - 1)) (c_10 : ¬ k2 ≤ k) (ev_24 : v_24 = f k2.toNatClampNeg) (ev_25 : v_25 = f k.toNatClampNeg) (c_26 : v_25 ≤ v_24) (w_28 : f2_29 = upd (upd f k.toNatClampNeg (f k2.toNatClampNeg)) k2.toNatClampNeg (f k.toNatClampNeg)) (ev_31 : v_31 = k + 1) (ev_32 : v_32 = ln - 1) (hn_91 : 10 - k3.toNatClampNeg < n_91 + 1) (h4k : 1 ≤ k3) (h5k : k4 < ln) (h6k : k3 ≤ 20) (hra : okRow fa ln) (hl3 : k + 1 ≤ k3) (hsm : k3 + k4 = k + ln) (h34 : k3 ≤ k4 + 1) (hfa : fa = rvP f2_29 (k + 1).toNatClampNeg (ln.toNatClampNeg - 1) k3.toNatClampNeg k4.toNatClampNeg) (c_33 : k4 ≤ k3) : okRow fa ln := by
  first
  | (grind)
  | (first
     | exact hr0
     | exact hra)
set_option maxHeartbeats 1000000 in
theorem pf_X2_toNext_37 (ln : Int32) (f : Nat → Int32) (v_1 : Int32) (n_7 : Nat) (k : Int32) (v_4 : Int32) (v_5 : Int32) (v_6 : Int32) (v_9 : Int32) (n_47 : Nat) (k2 : Int32) (v_24 : Int32) (v_25 : Int32) (f2_29 : Nat → Int32) (v_31 : Int32) (v_32 : Int32) (n_91 : Nat) (k3 : Int32) (k4 : Int32) (fa : Nat → Int32) (hl0 : 0 ≤ ln) (hl1 : ln ≤ 10) (hr0 : okRow f ln) (ev_1 : v_1 = ln - 2) (hn_7 : (k + 1).toNatClampNeg < n_7 + 1) (h1k : k < ln - 1) (hlo : -2 ≤ k) (hpv : pv f (k + 1).toNatClampNeg = pv f (ln.toNatClampNeg - 1)) (c_2 : ¬ k < 0) (ev_4 : v_4 = f k.toNatClampNeg) (ev_5 : v_5 = k + 1) (ev_6 : v_6 = f v_5.toNatClampNeg) (c_7 : v_4 ≤ v_6) (c_8 : 0 ≤ k) (ev_9 : v_9 = ln - 1) (hn_47 : k2.toNatClampNeg < n_47 + 1) (h0k : 0 ≤ k) (h2k : k2 < ln) (h3k : k ≤ k2) (hsj : sj f k.toNatClampNeg k2.toNatClampNeg = sj f k.toNatClampNeg (ln.toNatClampNeg - 1)) (c_10 : ¬ k2 ≤ k) (ev_24 : v_24 = f k2.toNatClampNeg) (ev_25 : v_25 = f k.toNatClampNeg) (c_26 : v_25 ≤ v_24) (w_28 : f2_29 = upd (upd f k.toNatClampNeg (f k2.toNatClampNeg)) k2.toNatClampNeg (f k.toNatClampNeg)) (ev_31 : v_31 = k + 1) (ev_32 : v_32 = ln - 1) (hn_91 : 10 - k3.toNatClampNeg < n_91 + 1) (h4k : 1 ≤ k3) (h5k : k4 < ln) (h6k : k3 ≤ 20) (hra : okRow fa ln) (hl3 : k + 1 ≤ k3) (hsm : k3 + k4 = k + ln) (h34 : k3 ≤ k4 + 1) (hfa : fa = rvP f2_29 (k + 1).toNatClampNeg (ln.toNatClampNeg - 1) k3.toNatClampNeg k4.toNatClampNeg) (c_33 : k4 ≤ k3) : ((1 : Int32) = 0 ↔ pv f (ln.toNatClampNeg - 1) = 0) := by
  have h9 := pv_h (f := f) h0k (by grind) (by grind) hpv
  rw [h9]
  constructor
  · intro q
    exact absurd q (by decide)
  · intro q
    omega
set_option maxHeartbeats 1000000 in
theorem pf_X2_toNext_38 (ln : Int32) (f : Nat → Int32) (v_1 : Int32) (n_7 : Nat) (k : Int32) (v_4 : Int32) (v_5 : Int32) (v_6 : Int32) (v_9 : Int32) (n_47 : Nat) (k2 : Int32) (v_24 : Int32) (v_25 : Int32) (f2_29 : Nat → Int32) (v_31 : Int32) (v_32 : Int32) (n_91 : Nat) (k3 : Int32) (k4 : Int32) (fa : Nat → Int32) (hl0 : 0 ≤ ln) (hl1 : ln ≤ 10) (hr0 : okRow f ln) (ev_1 : v_1 = ln - 2) (hn_7 : (k + 1).toNatClampNeg < n_7 + 1) (h1k : k < ln - 1) (hlo : -2 ≤ k) (hpv : pv f (k + 1).toNatClampNeg = pv f (ln.toNatClampNeg - 1)) (c_2 : ¬ k < 0) (ev_4 : v_4 = f k.toNatClampNeg) (ev_5 : v_5 = k + 1) (ev_6 : v_6 = f v_5.toNatClampNeg) (c_7 : v_4 ≤ v_6) (c_8 : 0 ≤ k) (ev_9 : v_9 = ln - 1) (hn_47 : k2.toNatClampNeg < n_47 + 1) (h0k : 0 ≤ k) (h2k : k2 < ln) (h3k : k ≤ k2) (hsj : sj f k.toNatClampNeg k2.toNatClampNeg = sj f k.toNatClampNeg (ln.toNatClampNeg - 1)) (c_10 : ¬ k2 ≤ k) (ev_24 : v_24 = f k2.toNatClampNeg) (ev_25 : v_25 = f k.toNatClampNeg) (c_26 : v_25 ≤ v_24) (w_28 : f2_29 = upd (upd f k.toNatClampNeg (f k2.toNatClampNeg)) k2.toNatClampNeg (f k.toNatClampNeg)) (ev_31 : v_31 = k + 1) (ev_32 : v_32 = ln - 1) (hn_91 : 10 - k3.toNatClampNeg < n_91 + 1) (h4k : 1 ≤ k3) (h5k : k4 < ln) (h6k : k3 ≤ 20) (hra : okRow fa ln) (hl3 : k + 1 ≤ k3) (hsm : k3 + k4 = k + ln) (h34 : k3 ≤ k4 + 1) (hfa : fa = rvP f2_29 (k + 1).toNatClampNeg (ln.toNatClampNeg - 1) k3.toNatClampNeg k4.toNatClampNeg) (c_33 : k4 ≤ k3) : (¬ (1 : Int32) = 0 → fa = nxF f ln.toNatClampNeg) := by
  intro _
  exact nx_end hl1 h0k h1k (pv_h (f := f) h0k (by grind) (by grind) hpv) (sj_h (by grind) hsj) (by assumption) hl3 (by grind) h5k hsm h34 hfa
set_option maxHeartbeats 1000000 in
theorem pf_X2_toNext_39 (ln : Int32) (f : Nat → Int32) (v_1 : Int32) (n_7 : Nat) (k : Int32) (v_4 : Int32) (v_5 : Int32) (v_6 : Int32) (v_9 : Int32) (n_47 : Nat) (k2 : Int32) (v_24 : Int32) (v_25 : Int32) (f2_29 : Nat → Int32) (v_31 : Int32) (v_32 : Int32) (n_91 : Nat) (k3 : Int32) (k4 : Int32) (fa : Nat → Int32) (hl0 : 0 ≤ ln) (hl1 : ln ≤ 10) (hr0 : okRow f ln) (ev_1 : v_1 = ln - 2) (hn_7 : (k + 1).toNatClampNeg < n_7 + 1) (h1k : k < ln - 1) (hlo : -2 ≤ k) (hpv : pv f (k + 1).toNatClampNeg = pv f (ln.toNatClampNeg - 1)) (c_2 : ¬ k < 0) (ev_4 : v_4 = f k.toNatClampNeg) (ev_5 : v_5 = k + 1) (ev_6 : v_6 = f v_5.toNatClampNeg) (c_7 : v_4 ≤ v_6) (c_8 : 0 ≤ k) (ev_9 : v_9 = ln - 1) (hn_47 : k2.toNatClampNeg < n_47 + 1) (h0k : 0 ≤ k) (h2k : k2 < ln) (h3k : k ≤ k2) (hsj : sj f k.toNatClampNeg k2.toNatClampNeg = sj f k.toNatClampNeg (ln.toNatClampNeg - 1)) (c_10 : ¬ k2 ≤ k) (ev_24 : v_24 = f k2.toNatClampNeg) (ev_25 : v_25 = f k.toNatClampNeg) (c_26 : v_25 ≤ v_24) (w_28 : f2_29 = upd (upd f k.toNatClampNeg (f k2.toNatClampNeg)) k2.toNatClampNeg (f k.toNatClampNeg)) (ev_31 : v_31 = k + 1) (ev_32 : v_32 = ln - 1) (hn_91 : 10 - k3.toNatClampNeg < n_91 + 1) (h4k : 1 ≤ k3) (h5k : k4 < ln) (h6k : k3 ≤ 20) (hra : okRow fa ln) (hl3 : k + 1 ≤ k3) (hsm : k3 + k4 = k + ln) (h34 : k3 ≤ k4 + 1) (hfa : fa = rvP f2_29 (k + 1).toNatClampNeg (ln.toNatClampNeg - 1) k3.toNatClampNeg k4.toNatClampNeg) (c_33 : ¬ k4 ≤ k3) : vp_in k3 10 := by
  exact vi_in (M := 10) rfl (by grind) (by grind)
set_option maxHeartbeats 1000000 in
theorem pf_X2_toNext_40 (ln : Int32) (f : Nat → Int32) (v_1 : Int32) (n_7 : Nat) (k : Int32) (v_4 : Int32) (v_5 : Int32) (v_6 : Int32) (v_9 : Int32) (n_47 : Nat) (k2 : Int32) (v_24 : Int32) (v_25 : Int32) (f2_29 : Nat → Int32) (v_31 : Int32) (v_32 : Int32) (n_91 : Nat) (k3 : Int32) (k4 : Int32) (fa : Nat → Int32) (hl0 : 0 ≤ ln) (hl1 : ln ≤ 10) (hr0 : okRow f ln) (ev_1 : v_1 = ln - 2) (hn_7 : (k + 1).toNatClampNeg < n_7 + 1) (h1k : k < ln - 1) (hlo : -2 ≤ k) (hpv : pv f (k + 1).toNatClampNeg = pv f (ln.toNatClampNeg - 1)) (c_2 : ¬ k < 0) (ev_4 : v_4 = f k.toNatClampNeg) (ev_5 : v_5 = k + 1) (ev_6 : v_6 = f v_5.toNatClampNeg) (c_7 : v_4 ≤ v_6) (c_8 : 0 ≤ k) (ev_9 : v_9 = ln - 1) (hn_47 : k2.toNatClampNeg < n_47 + 1) (h0k : 0 ≤ k) (h2k : k2 < ln) (h3k : k ≤ k2) (hsj : sj f k.toNatClampNeg k2.toNatClampNeg = sj f k.toNatClampNeg (ln.toNatClampNeg - 1)) (c_10 : ¬ k2 ≤ k) (ev_24 : v_24 = f k2.toNatClampNeg) (ev_25 : v_25 = f k.toNatClampNeg) (c_26 : v_25 ≤ v_24) (w_28 : f2_29 = upd (upd f k.toNatClampNeg (f k2.toNatClampNeg)) k2.toNatClampNeg (f k.toNatClampNeg)) (ev_31 : v_31 = k + 1) (ev_32 : v_32 = ln - 1) (hn_91 : 10 - k3.toNatClampNeg < n_91 + 1) (h4k : 1 ≤ k3) (h5k : k4 < ln) (h6k : k3 ≤ 20) (hra : okRow fa ln) (hl3 : k + 1 ≤ k3) (hsm : k3 + k4 = k + ln) (h34 : k3 ≤ k4 + 1) (hfa : fa = rvP f2_29 (k + 1).toNatClampNeg (ln.toNatClampNeg - 1) k3.toNatClampNeg k4.toNatClampNeg) (c_33 : ¬ k4 ≤ k3) : vp_in k4 10 := by
  exact vi_in (M := 10) rfl (by grind) (by grind)
set_option maxHeartbeats 1000000 in
theorem pf_X2_toNext_41 (ln : Int32) (f : Nat → Int32) (v_1 : Int32) (n_7 : Nat) (k : Int32) (v_4 : Int32) (v_5 : Int32) (v_6 : Int32) (v_9 : Int32) (n_47 : Nat) (k2 : Int32) (v_24 : Int32) (v_25 : Int32) (f2_29 : Nat → Int32) (v_31 : Int32) (v_32 : Int32) (n_91 : Nat) (k3 : Int32) (k4 : Int32) (fa : Nat → Int32) (f2_36 : Nat → Int32) (v_38 : Int32) (v_39 : Int32) (hl0 : 0 ≤ ln) (hl1 : ln ≤ 10) (hr0 : okRow f ln) (ev_1 : v_1 = ln - 2) (hn_7 : (k + 1).toNatClampNeg < n_7 + 1) (h1k : k < ln - 1) (hlo : -2 ≤ k) (hpv : pv f (k + 1).toNatClampNeg = pv f (ln.toNatClampNeg - 1)) (c_2 : ¬ k < 0) (ev_4 : v_4 = f k.toNatClampNeg) (ev_5 : v_5 = k + 1) (ev_6 : v_6 = f v_5.toNatClampNeg) (c_7 : v_4 ≤ v_6) (c_8 : 0 ≤ k) (ev_9 : v_9 = ln - 1) (hn_47 : k2.toNatClampNeg < n_47 + 1) (h0k : 0 ≤ k) (h2k : k2 < ln) (h3k : k ≤ k2) (hsj : sj f k.toNatClampNeg k2.toNatClampNeg = sj f k.toNatClampNeg (ln.toNatClampNeg - 1)) (c_10 : ¬ k2 ≤ k) (ev_24 : v_24 = f k2.toNatClampNeg) (ev_25 : v_25 = f k.toNatClampNeg) (c_26 : v_25 ≤ v_24) (w_28 : f2_29 = upd (upd f k.toNatClampNeg (f k2.toNatClampNeg)) k2.toNatClampNeg (f k.toNatClampNeg)) (ev_31 : v_31 = k + 1) (ev_32 : v_32 = ln - 1) (hn_91 : 10 - k3.toNatClampNeg < n_91 + 1) (h4k : 1 ≤ k3) (h5k : k4 < ln) (h6k : k3 ≤ 20) (hra : okRow fa ln) (hl3 : k + 1 ≤ k3) (hsm : k3 + k4 = k + ln) (h34 : k3 ≤ k4 + 1) (hfa : fa = rvP f2_29 (k + 1).toNatClampNeg (ln.toNatClampNeg - 1) k3.toNatClampNeg k4.toNatClampNeg) (c_33 : ¬ k4 ≤ k3) (w_35 : f2_36 = upd (upd fa k3.toNatClampNeg (fa k4.toNatClampNeg)) k4.toNatClampNeg (fa k3.toNatClampNeg)) (ev_38 : v_38 = k3 + 1) (ev_39 : v_39 = k4 + (-1)) : 10 - v_38.toNatClampNeg < n_91 := by
  exact ms_dec (L := 10) (k := k3) (by grind) (show ¬ (10 : Int32) ≤ k3 by grind) (by omega) (by assumption) hn_91
set_option maxHeartbeats 1000000 in
theorem pf_X2_toNext_42 (ln : Int32) (f : Nat → Int32) (v_1 : Int32) (n_7 : Nat) (k : Int32) (v_4 : Int32) (v_5 : Int32) (v_6 : Int32) (v_9 : Int32) (n_47 : Nat) (k2 : Int32) (v_24 : Int32) (v_25 : Int32) (f2_29 : Nat → Int32) (v_31 : Int32) (v_32 : Int32) (n_91 : Nat) (k3 : Int32) (k4 : Int32) (fa : Nat → Int32) (f2_36 : Nat → Int32) (v_38 : Int32) (v_39 : Int32) (hl0 : 0 ≤ ln) (hl1 : ln ≤ 10) (hr0 : okRow f ln) (ev_1 : v_1 = ln - 2) (hn_7 : (k + 1).toNatClampNeg < n_7 + 1) (h1k : k < ln - 1) (hlo : -2 ≤ k) (hpv : pv f (k + 1).toNatClampNeg = pv f (ln.toNatClampNeg - 1)) (c_2 : ¬ k < 0) (ev_4 : v_4 = f k.toNatClampNeg) (ev_5 : v_5 = k + 1) (ev_6 : v_6 = f v_5.toNatClampNeg) (c_7 : v_4 ≤ v_6) (c_8 : 0 ≤ k) (ev_9 : v_9 = ln - 1) (hn_47 : k2.toNatClampNeg < n_47 + 1) (h0k : 0 ≤ k) (h2k : k2 < ln) (h3k : k ≤ k2) (hsj : sj f k.toNatClampNeg k2.toNatClampNeg = sj f k.toNatClampNeg (ln.toNatClampNeg - 1)) (c_10 : ¬ k2 ≤ k) (ev_24 : v_24 = f k2.toNatClampNeg) (ev_25 : v_25 = f k.toNatClampNeg) (c_26 : v_25 ≤ v_24) (w_28 : f2_29 = upd (upd f k.toNatClampNeg (f k2.toNatClampNeg)) k2.toNatClampNeg (f k.toNatClampNeg)) (ev_31 : v_31 = k + 1) (ev_32 : v_32 = ln - 1) (hn_91 : 10 - k3.toNatClampNeg < n_91 + 1) (h4k : 1 ≤ k3) (h5k : k4 < ln) (h6k : k3 ≤ 20) (hra : okRow fa ln) (hl3 : k + 1 ≤ k3) (hsm : k3 + k4 = k + ln) (h34 : k3 ≤ k4 + 1) (hfa : fa = rvP f2_29 (k + 1).toNatClampNeg (ln.toNatClampNeg - 1) k3.toNatClampNeg k4.toNatClampNeg) (c_33 : ¬ k4 ≤ k3) (w_35 : f2_36 = upd (upd fa k3.toNatClampNeg (fa k4.toNatClampNeg)) k4.toNatClampNeg (fa k3.toNatClampNeg)) (ev_38 : v_38 = k3 + 1) (ev_39 : v_39 = k4 + (-1)) : 1 ≤ v_38 := by
  grind
set_option maxHeartbeats 1000000 in
theorem pf_X2_toNext_43 (ln : Int32) (f : Nat → Int32) (v_1 : Int32) (n_7 : Nat) (k : Int32) (v_4 : Int32) (v_5 : Int32) (v_6 : Int32) (v_9 : Int32) (n_47 : Nat) (k2 : Int32) (v_24 : Int32) (v_25 : Int32) (f2_29 : Nat → Int32) (v_31 : Int32) (v_32 : Int32) (n_91 : Nat) (k3 : Int32) (k4 : Int32) (fa : Nat → Int32) (f2_36 : Nat → Int32) (v_38 : Int32) (v_39 : Int32) (hl0 : 0 ≤ ln) (hl1 : ln ≤ 10) (hr0 : okRow f ln) (ev_1 : v_1 = ln - 2) (hn_7 : (k + 1).toNatClampNeg < n_7 + 1) (h1k : k < ln - 1) (hlo : -2 ≤ k) (hpv : pv f (k + 1).toNatClampNeg = pv f (ln.toNatClampNeg - 1)) (c_2 : ¬ k < 0) (ev_4 : v_4 = f k.toNatClampNeg) (ev_5 : v_5 = k + 1) (ev_6 : v_6 = f v_5.toNatClampNeg) (c_7 : v_4 ≤ v_6) (c_8 : 0 ≤ k) (ev_9 : v_9 = ln - 1) (hn_47 : k2.toNatClampNeg < n_47 + 1) (h0k : 0 ≤ k) (h2k : k2 < ln) (h3k : k ≤ k2) (hsj : sj f k.toNatClampNeg k2.toNatClampNeg = sj f k.toNatClampNeg (ln.toNatClampNeg - 1)) (c_10 : ¬ k2 ≤ k) (ev_24 : v_24 = f k2.toNatClampNeg) (ev_25 : v_25 = f k.toNatClampNeg) (c_26 : v_25 ≤ v_24) (w_28 : f2_29 = upd (upd f k.toNatClampNeg (f k2.toNatClampNeg)) k2.toNatClampNeg (f k.toNatClampNeg)) (ev_31 : v_31 = k + 1) (ev_32 : v_32 = ln - 1) (hn_91 : 10 - k3.toNatClampNeg < n_91 + 1) (h4k : 1 ≤ k3) (h5k : k4 < ln) (h6k : k3 ≤ 20) (hra : okRow fa ln) (hl3 : k + 1 ≤ k3) (hsm : k3 + k4 = k + ln) (h34 : k3 ≤ k4 + 1) (hfa : fa = rvP f2_29 (k + 1).toNatClampNeg (ln.toNatClampNeg - 1) k3.toNatClampNeg k4.toNatClampNeg) (c_33 : ¬ k4 ≤ k3) (w_35 : f2_36 = upd (upd fa k3.toNatClampNeg (fa k4.toNatClampNeg)) k4.toNatClampNeg (fa k3.toNatClampNeg)) (ev_38 : v_38 = k3 + 1) (ev_39 : v_39 = k4 + (-1)) : v_39 < ln := by
  grind
set_option maxHeartbeats 1000000 in
theorem pf_X2_toNext_44 (ln : Int32) (f : Nat → Int32) (v_1 : Int32) (n_7 : Nat) (k : Int32) (v_4 : Int32) (v_5 : Int32) (v_6 : Int32) (v_9 : Int32) (n_47 : Nat) (k2 : Int32) (v_24 : Int32) (v_25 : Int32) (f2_29 : Nat → Int32) (v_31 : Int32) (v_32 : Int32) (n_91 : Nat) (k3 : Int32) (k4 : Int32) (fa : Nat → Int32) (f2_36 : Nat → Int32) (v_38 : Int32) (v_39 : Int32) (hl0 : 0 ≤ ln) (hl1 : ln ≤ 10) (hr0 : okRow f ln) (ev_1 : v_1 = ln - 2) (hn_7 : (k + 1).toNatClampNeg < n_7 + 1) (h1k : k < ln - 1) (hlo : -2 ≤ k) (hpv : pv f (k + 1).toNatClampNeg = pv f (ln.toNatClampNeg - 1)) (c_2 : ¬ k < 0) (ev_4 : v_4 = f k.toNatClampNeg) (ev_5 : v_5 = k + 1) (ev_6 : v_6 = f v_5.toNatClampNeg) (c_7 : v_4 ≤ v_6) (c_8 : 0 ≤ k) (ev_9 : v_9 = ln - 1) (hn_47 : k2.toNatClampNeg < n_47 + 1) (h0k : 0 ≤ k) (h2k : k2 < ln) (h3k : k ≤ k2) (hsj : sj f k.toNatClampNeg k2.toNatClampNeg = sj f k.toNatClampNeg (ln.toNatClampNeg - 1)) (c_10 : ¬ k2 ≤ k) (ev_24 : v_24 = f k2.toNatClampNeg) (ev_25 : v_25 = f k.toNatClampNeg) (c_26 : v_25 ≤ v_24) (w_28 : f2_29 = upd (upd f k.toNatClampNeg (f k2.toNatClampNeg)) k2.toNatClampNeg (f k.toNatClampNeg)) (ev_31 : v_31 = k + 1) (ev_32 : v_32 = ln - 1) (hn_91 : 10 - k3.toNatClampNeg < n_91 + 1) (h4k : 1 ≤ k3) (h5k : k4 < ln) (h6k : k3 ≤ 20) (hra : okRow fa ln) (hl3 : k + 1 ≤ k3) (hsm : k3 + k4 = k + ln) (h34 : k3 ≤ k4 + 1) (hfa : fa = rvP f2_29 (k + 1).toNatClampNeg (ln.toNatClampNeg - 1) k3.toNatClampNeg k4.toNatClampNeg) (c_33 : ¬ k4 ≤ k3) (w_35 : f2_36 = upd (upd fa k3.toNatClampNeg (fa k4.toNatClampNeg)) k4.toNatClampNeg (fa k3.toNatClampNeg)) (ev_38 : v_38 = k3 + 1) (ev_39 : v_39 = k4 + (-1)) : v_38 ≤ 20 := by
  grind
set_option maxHeartbeats 1000000 in
theorem pf_X2_toNext_45 (ln : Int32) (f : Nat → Int32) (v_1 : Int32) (n_7 : Nat) (k : Int32) (v_4 : Int32) (v_5 : Int32) (v_6 : Int32) (v_9 : Int32) (n_47 : Nat) (k2 : Int32) (v_24 : Int32) (v_25 : Int32) (f2_29 : Nat → Int32) (v_31 : Int32) (v_32 : Int32) (n_91 : Nat) (k3 : Int32) (k4 : Int32) (fa : Nat → Int32) (f2_36 : Nat → Int32) (v_38 : Int32) (v_39 : Int32) (hl0 : 0 ≤ ln) (hl1 : ln ≤ 10) (hr0 : okRow f ln) (ev_1 : v_1 = ln - 2) (hn_7 : (k + 1).toNatClampNeg < n_7 + 1) (h1k : k < ln - 1) (hlo : -2 ≤ k) (hpv : pv f (k + 1).toNatClampNeg = pv f (ln.toNatClampNeg - 1)) (c_2 : ¬ k < 0) (ev_4 : v_4 = f k.toNatClampNeg) (ev_5 : v_5 = k + 1) (ev_6 : v_6 = f v_5.toNatClampNeg) (c_7 : v_4 ≤ v_6) (c_8 : 0 ≤ k) (ev_9 : v_9 = ln - 1) (hn_47 : k2.toNatClampNeg < n_47 + 1) (h0k : 0 ≤ k) (h2k : k2 < ln) (h3k : k ≤ k2) (hsj : sj f k.toNatClampNeg k2.toNatClampNeg = sj f k.toNatClampNeg (ln.toNatClampNeg - 1)) (c_10 : ¬ k2 ≤ k) (ev_24 : v_24 = f k2.toNatClampNeg) (ev_25 : v_25 = f k.toNatClampNeg) (c_26 : v_25 ≤ v_24) (w_28 : f2_29 = upd (upd f k.toNatClampNeg (f k2.toNatClampNeg)) k2.toNatClampNeg (f k.toNatClampNeg)) (ev_31 : v_31 = k + 1) (ev_32 : v_32 = ln - 1) (hn_91 : 10 - k3.toNatClampNeg < n_91 + 1) (h4k : 1 ≤ k3) (h5k : k4 < ln) (h6k : k3 ≤ 20) (hra : okRow fa ln) (hl3 : k + 1 ≤ k3) (hsm : k3 + k4 = k + ln) (h34 : k3 ≤ k4 + 1) (hfa : fa = rvP f2_29 (k + 1).toNatClampNeg (ln.toNatClampNeg - 1) k3.toNatClampNeg k4.toNatClampNeg) (c_33 : ¬ k4 ≤ k3) (w_35 : f2_36 = upd (upd fa k3.toNatClampNeg (fa k4.toNatClampNeg)) k4.toNatClampNeg (fa k3.toNatClampNeg)) (ev_38 : v_38 = k3 + 1) (ev_39 : v_39 = k4 + (-1)) : okRow f2_36 ln := by
  have h8 := okRow_at hra (k := k3) (by grind) (by grind)
  have h9 := okRow_at hra (k := k4) (by grind) (by grind)
  subst_vars
  exact okRow_upd (okRow_upd hra h9.1 h9.2) h8.1 h8.2
set_option maxHeartbeats 1000000 in
theorem pf_X2_toNext_46 (ln : Int32) (f : Nat → Int32) (v_1 : Int32) (n_7 : Nat) (k : Int32) (v_4 : Int32) (v_5 : Int32) (v_6 : Int32) (v_9 : Int32) (n_47 : Nat) (k2 : Int32) (v_24 : Int32) (v_25 : Int32) (f2_29 : Nat → Int32) (v_31 : Int32) (v_32 : Int32) (n_91 : Nat) (k3 : Int32) (k4 : Int32) (fa : Nat → Int32) (f2_36 : Nat → Int32) (v_38 : Int32) (v_39 : Int32) (hl0 : 0 ≤ ln) (hl1 : ln ≤ 10) (hr0 : okRow f ln) (ev_1 : v_1 = ln - 2) (hn_7 : (k + 1).toNatClampNeg < n_7 + 1) (h1k : k < ln - 1) (hlo : -2 ≤ k) (hpv : pv f (k + 1).toNatClampNeg = pv f (ln.toNatClampNeg - 1)) (c_2 : ¬ k < 0) (ev_4 : v_4 = f k.toNatClampNeg) (ev_5 : v_5 = k + 1) (ev_6 : v_6 = f v_5.toNatClampNeg) (c_7 : v_4 ≤ v_6) (c_8 : 0 ≤ k) (ev_9 : v_9 = ln - 1) (hn_47 : k2.toNatClampNeg < n_47 + 1) (h0k : 0 ≤ k) (h2k : k2 < ln) (h3k : k ≤ k2) (hsj : sj f k.toNatClampNeg k2.toNatClampNeg = sj f k.toNatClampNeg (ln.toNatClampNeg - 1)) (c_10 : ¬ k2 ≤ k) (ev_24 : v_24 = f k2.toNatClampNeg) (ev_25 : v_25 = f k.toNatClampNeg) (c_26 : v_25 ≤ v_24) (w_28 : f2_29 = upd (upd f k.toNatClampNeg (f k2.toNatClampNeg)) k2.toNatClampNeg (f k.toNatClampNeg)) (ev_31 : v_31 = k + 1) (ev_32 : v_32 = ln - 1) (hn_91 : 10 - k3.toNatClampNeg < n_91 + 1) (h4k : 1 ≤ k3) (h5k : k4 < ln) (h6k : k3 ≤ 20) (hra : okRow fa ln) (hl3 : k + 1 ≤ k3) (hsm : k3 + k4 = k + ln) (h34 : k3 ≤ k4 + 1) (hfa : fa = rvP f2_29 (k + 1).toNatClampNeg (ln.toNatClampNeg - 1) k3.toNatClampNeg k4.toNatClampNeg) (c_33 : ¬ k4 ≤ k3) (w_35 : f2_36 = upd (upd fa k3.toNatClampNeg (fa k4.toNatClampNeg)) k4.toNatClampNeg (fa k3.toNatClampNeg)) (ev_38 : v_38 = k3 + 1) (ev_39 : v_39 = k4 + (-1)) : k + 1 ≤ v_38 := by
  grind
set_option maxHeartbeats 1000000 in
theorem pf_X2_toNext_47 (ln : Int32) (f : Nat → Int32) (v_1 : Int32) (n_7 : Nat) (k : Int32) (v_4 : Int32) (v_5 : Int32) (v_6 : Int32) (v_9 : Int32) (n_47 : Nat) (k2 : Int32) (v_24 : Int32) (v_25 : Int32) (f2_29 : Nat → Int32) (v_31 : Int32) (v_32 : Int32) (n_91 : Nat) (k3 : Int32) (k4 : Int32) (fa : Nat → Int32) (f2_36 : Nat → Int32) (v_38 : Int32) (v_39 : Int32) (hl0 : 0 ≤ ln) (hl1 : ln ≤ 10) (hr0 : okRow f ln) (ev_1 : v_1 = ln - 2) (hn_7 : (k + 1).toNatClampNeg < n_7 + 1) (h1k : k < ln - 1) (hlo : -2 ≤ k) (hpv : pv f (k + 1).toNatClampNeg = pv f (ln.toNatClampNeg - 1)) (c_2 : ¬ k < 0) (ev_4 : v_4 = f k.toNatClampNeg) (ev_5 : v_5 = k + 1) (ev_6 : v_6 = f v_5.toNatClampNeg) (c_7 : v_4 ≤ v_6) (c_8 : 0 ≤ k) (ev_9 : v_9 = ln - 1) (hn_47 : k2.toNatClampNeg < n_47 + 1) (h0k : 0 ≤ k) (h2k : k2 < ln) (h3k : k ≤ k2) (hsj : sj f k.toNatClampNeg k2.toNatClampNeg = sj f k.toNatClampNeg (ln.toNatClampNeg - 1)) (c_10 : ¬ k2 ≤ k) (ev_24 : v_24 = f k2.toNatClampNeg) (ev_25 : v_25 = f k.toNatClampNeg) (c_26 : v_25 ≤ v_24) (w_28 : f2_29 = upd (upd f k.toNatClampNeg (f k2.toNatClampNeg)) k2.toNatClampNeg (f k.toNatClampNeg)) (ev_31 : v_31 = k + 1) (ev_32 : v_32 = ln - 1) (hn_91 : 10 - k3.toNatClampNeg < n_91 + 1) (h4k : 1 ≤ k3) (h5k : k4 < ln) (h6k : k3 ≤ 20) (hra : okRow fa ln) (hl3 : k + 1 ≤ k3) (hsm : k3 + k4 = k + ln) (h34 : k3 ≤ k4 + 1) (hfa : fa = rvP f2_29 (k + 1).toNatClampNeg (ln.toNatClampNeg - 1) k3.toNatClampNeg k4.toNatClampNeg) (c_33 : ¬ k4 ≤ k3) (w_35 : f2_36 = upd (upd fa k3.toNatClampNeg (fa k4.toNatClampNeg)) k4.toNatClampNeg (fa k3.toNatClampNeg)) (ev_38 : v_38 = k3 + 1) (ev_39 : v_39 = k4 + (-1)) : v_38 + v_39 = k + ln := by
  grind
set_option maxHeartbeats 1000000 in
theorem pf_X2_toNext_48 (ln : Int32) (f : Nat → Int32) (v_1 : Int32) (n_7 : Nat) (k : Int32) (v_4 : Int32) (v_5 : Int32) (v_6 : Int32) (v_9 : Int32) (n_47 : Nat) (k2 : Int32) (v_24 : Int32) (v_25 : Int32) (f2_29 : Nat → Int32) (v_31 : Int32) (v_32 : Int32) (n_91 : Nat) (k3 : Int32) (k4 : Int32) (fa : Nat → Int32) (f2_36 : Nat → Int32) (v_38 : Int32) (v_39 : Int32) (hl0 : 0 ≤ ln) (hl1 : ln ≤ 10) (hr0 : okRow f ln) (ev_1 : v_1 = ln - 2) (hn_7 : (k + 1).toNatClampNeg < n_7 + 1) (h1k : k < ln - 1) (hlo : -2 ≤ k) (hpv : pv f (k + 1).toNatClampNeg = pv f (ln.toNatClampNeg - 1)) (c_2 : ¬ k < 0) (ev_4 : v_4 = f k.toNatClampNeg) (ev_5 : v_5 = k + 1) (ev_6 : v_6 = f v_5.toNatClampNeg) (c_7 : v_4 ≤ v_6) (c_8 : 0 ≤ k) (ev_9 : v_9 = ln - 1) (hn_47 : k2.toNatClampNeg < n_47 + 1) (h0k : 0 ≤ k) (h2k : k2 < ln) (h3k : k ≤ k2) (hsj : sj f k.toNatClampNeg k2.toNatClampNeg = sj f k.toNatClampNeg (ln.toNatClampNeg - 1)) (c_10 : ¬ k2 ≤ k) (ev_24 : v_24 = f k2.toNatClampNeg) (ev_25 : v_25 = f k.toNatClampNeg) (c_26 : v_25 ≤ v_24) (w_28 : f2_29 = upd (upd f k.toNatClampNeg (f k2.toNatClampNeg)) k2.toNatClampNeg (f k.toNatClampNeg)) (ev_31 : v_31 = k + 1) (ev_32 : v_32 = ln - 1) (hn_91 : 10 - k3.toNatClampNeg < n_91 + 1) (h4k : 1 ≤ k3) (h5k : k4 < ln) (h6k : k3 ≤ 20) (hra : okRow fa ln) (hl3 : k + 1 ≤ k3) (hsm : k3 + k4 = k + ln) (h34 : k3 ≤ k4 + 1) (hfa : fa = rvP f2_29 (k + 1).toNatClampNeg (ln.toNatClampNeg - 1) k3.toNatClampNeg k4.toNatClampNeg) (c_33 : ¬ k4 ≤ k3) (w_35 : f2_36 = upd (upd fa k3.toNatClampNeg (fa k4.toNatClampNeg)) k4.toNatClampNeg (fa k3.toNatClampNeg)) (ev_38 : v_38 = k3 + 1) (ev_39 : v_39 = k4 + (-1)) : v_38 ≤ v_39 + 1 := by
  grind
set_option maxHeartbeats 1000000 in
theorem pf_X2_toNext_49 (ln : Int32) (f : Nat → Int32) (v_1 : Int32) (n_7 : Nat) (k : Int32) (v_4 : Int32) (v_5 : Int32) (v_6 : Int32) (v_9 : Int32) (n_47 : Nat) (k2 : Int32) (v_24 : Int32) (v_25 : Int32) (f2_29 : Nat → Int32) (v_31 : Int32) (v_32 : Int32) (n_91 : Nat) (k3 : Int32) (k4 : Int32) (fa : Nat → Int32) (f2_36 : Nat → Int32) (v_38 : Int32) (v_39 : Int32) (hl0 : 0 ≤ ln) (hl1 : ln ≤ 10) (hr0 : okRow f ln) (ev_1 : v_1 = ln - 2) (hn_7 : (k + 1).toNatClampNeg < n_7 + 1) (h1k : k < ln - 1) (hlo : -2 ≤ k) (hpv : pv f (k + 1).toNatClampNeg = pv f (ln.toNatClampNeg - 1)) (c_2 : ¬ k < 0) (ev_4 : v_4 = f k.toNatClampNeg) (ev_5 : v_5 = k + 1) (ev_6 : v_6 = f v_5.toNatClampNeg) (c_7 : v_4 ≤ v_6) (c_8 : 0 ≤ k) (ev_9 : v_9 = ln - 1) (hn_47 : k2.toNatClampNeg < n_47 + 1) (h0k : 0 ≤ k) (h2k : k2 < ln) (h3k : k ≤ k2) (hsj : sj f k.toNatClampNeg k2.toNatClampNeg = sj f k.toNatClampNeg (ln.toNatClampNeg - 1)) (c_10 : ¬ k2 ≤ k) (ev_24 : v_24 = f k2.toNatClampNeg) (ev_25 : v_25 = f k.toNatClampNeg) (c_26 : v_25 ≤ v_24) (w_28 : f2_29 = upd (upd f k.toNatClampNeg (f k2.toNatClampNeg)) k2.toNatClampNeg (f k.toNatClampNeg)) (ev_31 : v_31 = k + 1) (ev_32 : v_32 = ln - 1) (hn_91 : 10 - k3.toNatClampNeg < n_91 + 1) (h4k : 1 ≤ k3) (h5k : k4 < ln) (h6k : k3 ≤ 20) (hra : okRow fa ln) (hl3 : k + 1 ≤ k3) (hsm : k3 + k4 = k + ln) (h34 : k3 ≤ k4 + 1) (hfa : fa = rvP f2_29 (k + 1).toNatClampNeg (ln.toNatClampNeg - 1) k3.toNatClampNeg k4.toNatClampNeg) (c_33 : ¬ k4 ≤ k3) (w_35 : f2_36 = upd (upd fa k3.toNatClampNeg (fa k4.toNatClampNeg)) k4.toNatClampNeg (fa k3.toNatClampNeg)) (ev_38 : v_38 = k3 + 1) (ev_39 : v_39 = k4 + (-1)) : f2_36 = rvP f2_29 (k + 1).toNatClampNeg (ln.toNatClampNeg - 1) v_38.toNatClampNeg v_39.toNatClampNeg := by
  exact rv_b hl1 h0k hl3 (by grind) h5k hsm (by grind) (by assumption) (by assumption) (by assumption) hfa
set_option maxHeartbeats 1000000 in
theorem pf_X2_toNext_50 (ln : Int32) (f : Nat → Int32) (v_1 : Int32) (n_7 : Nat) (k : Int32) (v_4 : Int32) (v_5 : Int32) (v_6 : Int32) (v_9 : Int32) (n_47 : Nat) (k2 : Int32) (v_24 : Int32) (v_25 : Int32) (f2_29 : Nat → Int32) (v_31 : Int32) (v_32 : Int32) (hl0 : 0 ≤ ln) (hl1 : ln ≤ 10) (hr0 : okRow f ln) (ev_1 : v_1 = ln - 2) (hn_7 : (k + 1).toNatClampNeg < n_7 + 1) (h1k : k < ln - 1) (hlo : -2 ≤ k) (hpv : pv f (k + 1).toNatClampNeg = pv f (ln.toNatClampNeg - 1)) (c_2 : ¬ k < 0) (ev_4 : v_4 = f k.toNatClampNeg) (ev_5 : v_5 = k + 1) (ev_6 : v_6 = f v_5.toNatClampNeg) (c_7 : v_4 ≤ v_6) (c_8 : 0 ≤ k) (ev_9 : v_9 = ln - 1) (hn_47 : k2.toNatClampNeg < n_47 + 1) (h0k : 0 ≤ k) (h2k : k2 < ln) (h3k : k ≤ k2) (hsj : sj f k.toNatClampNeg k2.toNatClampNeg = sj f k.toNatClampNeg (ln.toNatClampNeg - 1)) (c_10 : ¬ k2 ≤ k) (ev_24 : v_24 = f k2.toNatClampNeg) (ev_25 : v_25 = f k.toNatClampNeg) (c_26 : v_25 ≤ v_24) (w_28 : f2_29 = upd (upd f k.toNatClampNeg (f k2.toNatClampNeg)) k2.toNatClampNeg (f k.toNatClampNeg)) (ev_31 : v_31 = k + 1) (ev_32 : v_32 = ln - 1) : 1 ≤ v_31 := by
  grind
set_option maxHeartbeats 1000000 in
theorem pf_X2_toNext_51 (ln : Int32) (f : Nat → Int32) (v_1 : Int32) (n_7 : Nat) (k : Int32) (v_4 : Int32) (v_5 : Int32) (v_6 : Int32) (v_9 : Int32) (n_47 : Nat) (k2 : Int32) (v_24 : Int32) (v_25 : Int32) (f2_29 : Nat → Int32) (v_31 : Int32) (v_32 : Int32) (hl0 : 0 ≤ ln) (hl1 : ln ≤ 10) (hr0 : okRow f ln) (ev_1 : v_1 = ln - 2) (hn_7 : (k + 1).toNatClampNeg < n_7 + 1) (h1k : k < ln - 1) (hlo : -2 ≤ k) (hpv : pv f (k + 1).toNatClampNeg = pv f (ln.toNatClampNeg - 1)) (c_2 : ¬ k < 0) (ev_4 : v_4 = f k.toNatClampNeg) (ev_5 : v_5 = k + 1) (ev_6 : v_6 = f v_5.toNatClampNeg) (c_7 : v_4 ≤ v_6) (c_8 : 0 ≤ k) (ev_9 : v_9 = ln - 1) (hn_47 : k2.toNatClampNeg < n_47 + 1) (h0k : 0 ≤ k) (h2k : k2 < ln) (h3k : k ≤ k2) (hsj : sj f k.toNatClampNeg k2.toNatClampNeg = sj f k.toNatClampNeg (ln.toNatClampNeg - 1)) (c_10 : ¬ k2 ≤ k) (ev_24 : v_24 = f k2.toNatClampNeg) (ev_25 : v_25 = f k.toNatClampNeg) (c_26 : v_25 ≤ v_24) (w_28 : f2_29 = upd (upd f k.toNatClampNeg (f k2.toNatClampNeg)) k2.toNatClampNeg (f k.toNatClampNeg)) (ev_31 : v_31 = k + 1) (ev_32 : v_32 = ln - 1) : v_32 < ln := by
  grind
set_option maxHeartbeats 1000000 in
theorem pf_X2_toNext_52 (ln : Int32) (f : Nat → Int32) (v_1 : Int32) (n_7 : Nat) (k : Int32) (v_4 : Int32) (v_5 : Int32) (v_6 : Int32) (v_9 : Int32) (n_47 : Nat) (k2 : Int32) (v_24 : Int32) (v_25 : Int32) (f2_29 : Nat → Int32) (v_31 : Int32) (v_32 : Int32) (hl0 : 0 ≤ ln) (hl1 : ln ≤ 10) (hr0 : okRow f ln) (ev_1 : v_1 = ln - 2) (hn_7 : (k + 1).toNatClampNeg < n_7 + 1) (h1k : k < ln - 1) (hlo : -2 ≤ k) (hpv : pv f (k + 1).toNatClampNeg = pv f (ln.toNatClampNeg - 1)) (c_2 : ¬ k < 0) (ev_4 : v_4 = f k.toNatClampNeg) (ev_5 : v_5 = k + 1) (ev_6 : v_6 = f v_5.toNatClampNeg) (c_7 : v_4 ≤ v_6) (c_8 : 0 ≤ k) (ev_9 : v_9 = ln - 1) (hn_47 : k2.toNatClampNeg < n_47 + 1) (h0k : 0 ≤ k) (h2k : k2 < ln) (h3k : k ≤ k2) (hsj : sj f k.toNatClampNeg k2.toNatClampNeg = sj f k.toNatClampNeg (ln.toNatClampNeg - 1)) (c_10 : ¬ k2 ≤ k) (ev_24 : v_24 = f k2.toNatClampNeg) (ev_25 : v_25 = f k.toNatClampNeg) (c_26 : v_25 ≤ v_24) (w_28 : f2_29 = upd (upd f k.toNatClampNeg (f k2.toNatClampNeg)) k2.toNatClampNeg (f k.toNatClampNeg)) (ev_31 : v_31 = k + 1) (ev_32 : v_32 = ln - 1) : v_31 ≤ 20 := by
  grind
set_option maxHeartbeats 1000000 in
theorem pf_X2_toNext_53 (ln : Int32) (f : Nat → Int32) (v_1 : Int32) (n_7 : Nat) (k : Int32) (v_4 : Int32) (v_5 : Int32) (v_6 : Int32) (v_9 : Int32) (n_47 : Nat) (k2 : Int32) (v_24 : Int32) (v_25 : Int32) (f2_29 : Nat → Int32) (v_31 : Int32) (v_32 : Int32) (hl0 : 0 ≤ ln) (hl1 : ln ≤ 10) (hr0 : okRow f ln) (ev_1 : v_1 = ln - 2) (hn_7 : (k + 1).toNatClampNeg < n_7 + 1) (h1k : k < ln - 1) (hlo : -2 ≤ k) (hpv : pv f (k + 1).toNatClampNeg = pv f (ln.toNatClampNeg - 1)) (c_2 : ¬ k < 0) (ev_4 : v_4 = f k.toNatClampNeg) (ev_5 : v_5 = k + 1) (ev_6 : v_6 = f v_5.toNatClampNeg) (c_7 : v_4 ≤ v_6) (c_8 : 0 ≤ k) (ev_9 : v_9 = ln - 1) (hn_47 : k2.toNatClampNeg < n_47 + 1) (h0k : 0 ≤ k) (h2k : k2 < ln) (h3k : k ≤ k2) (hsj : sj f k.toNatClampNeg k2.toNatClampNeg = sj f k.toNatClampNeg (ln.toNatClampNeg - 1)) (c_10 : ¬ k2 ≤ k) (ev_24 : v_24 = f k2.toNatClampNeg) (ev_25 : v_25 = f k.toNatClampNeg) (c_26 : v_25 ≤ v_24) (w_28 : f2_29 = upd (upd f k.toNatClampNeg (f k2.toNatClampNeg)) k2.toNatClampNeg (f k.toNatClampNeg)) (ev_31 : v_31 = k + 1) (ev_32 : v_32 = ln - 1) : okRow f2_29 ln := by
  have h8 := okRow_at hr0 (k := k) (by grind) (by grind)
  have h9 := okRow_at hr0 (k := k2) (by grind) (by grind)
  subst_vars
  exact okRow_upd (okRow_upd hr0 h9.1 h9.2) h8.1 h8.2
set_option maxHeartbeats 1000000 in
theorem pf_X2_toNext_54 (ln : Int32) (f : Nat → Int32) (v_1 : Int32) (n_7 : Nat) (k : Int32) (v_4 : Int32) (v_5 : Int32) (v_6 : Int32) (v_9 : Int32) (n_47 : Nat) (k2 : Int32) (v_24 : Int32) (v_25 : Int32) (f2_29 : Nat → Int32) (v_31 : Int32) (v_32 : Int32) (hl0 : 0 ≤ ln) (hl1 : ln ≤ 10) (hr0 : okRow f ln) (ev_1 : v_1 = ln - 2) (hn_7 : (k + 1).toNatClampNeg < n_7 + 1) (h1k : k < ln - 1) (hlo : -2 ≤ k) (hpv : pv f (k + 1).toNatClampNeg = pv f (ln.toNatClampNeg - 1)) (c_2 : ¬ k < 0) (ev_4 : v_4 = f k.toNatClampNeg) (ev_5 : v_5 = k + 1) (ev_6 : v_6 = f v_5.toNatClampNeg) (c_7 : v_4 ≤ v_6) (c_8 : 0 ≤ k) (ev_9 : v_9 = ln - 1) (hn_47 : k2.toNatClampNeg < n_47 + 1) (h0k : 0 ≤ k) (h2k : k2 < ln) (h3k : k ≤ k2) (hsj : sj f k.toNatClampNeg k2.toNatClampNeg = sj f k.toNatClampNeg (ln.toNatClampNeg - 1)) (c_10 : ¬ k2 ≤ k) (ev_24 : v_24 = f k2.toNatClampNeg) (ev_25 : v_25 = f k.toNatClampNeg) (c_26 : v_25 ≤ v_24) (w_28 : f2_29 = upd (upd f k.toNatClampNeg (f k2.toNatClampNeg)) k2.toNatClampNeg (f k.toNatClampNeg)) (ev_31 : v_31 = k + 1) (ev_32 : v_32 = ln - 1) : k + 1 ≤ v_31 := by
  grind
set_option maxHeartbeats 1000000 in
theorem pf_X2_toNext_55 (ln : Int32) (f : Nat → Int32) (v_1 : Int32) (n_7 : Nat) (k : Int32) (v_4 : Int32) (v_5 : Int32) (v_6 : Int32) (v_9 : Int32) (n_47 : Nat) (k2 : Int32) (v_24 : Int32) (v_25 : Int32) (f2_29 : Nat → Int32) (v_31 : Int32) (v_32 : Int32) (hl0 : 0 ≤ ln) (hl1 : ln ≤ 10) (hr0 : okRow f ln) (ev_1 : v_1 = ln - 2) (hn_7 : (k + 1).toNatClampNeg < n_7 + 1) (h1k : k < ln - 1) (hlo : -2 ≤ k) (hpv : pv f (k + 1).toNatClampNeg = pv f (ln.toNatClampNeg - 1)) (c_2 : ¬ k < 0) (ev_4 : v_4 = f k.toNatClampNeg) (ev_5 : v_5 = k + 1) (ev_6 : v_6 = f v_5.toNatClampNeg) (c_7 : v_4 ≤ v_6) (c_8 : 0 ≤ k) (ev_9 : v_9 = ln - 1) (hn_47 : k2.toNatClampNeg < n_47 + 1) (h0k : 0 ≤ k) (h2k : k2 < ln) (h3k : k ≤ k2) (hsj : sj f k.toNatClampNeg k2.toNatClampNeg = sj f k.toNatClampNeg (ln.toNatClampNeg - 1)) (c_10 : ¬ k2 ≤ k) (ev_24 : v_24 = f k2.toNatClampNeg) (ev_25 : v_25 = f k.toNatClampNeg) (c_26 : v_25 ≤ v_24) (w_28 : f2_29 = upd (upd f k.toNatClampNeg (f k2.toNatClampNeg)) k2.toNatClampNeg (f k.toNatClampNeg)) (ev_31 : v_31 = k + 1) (ev_32 : v_32 = ln - 1) : v_31 + v_32 = k + ln := by
  grind
set_option maxHeartbeats 1000000 in
theorem pf_X2_toNext_56 (ln : Int32) (f : Nat → Int32) (v_1 : Int32) (n_7 : Nat) (k : Int32) (v_4 : Int32) (v_5 : Int32) (v_6 : Int32) (v_9 : Int32) (n_47 : Nat) (k2 : Int32) (v_24 : Int32) (v_25 : Int32) (f2_29 : Nat → Int32) (v_31 : Int32) (v_32 : Int32) (hl0 : 0 ≤ ln) (hl1 : ln ≤ 10) (hr0 : okRow f ln) (ev_1 : v_1 = ln - 2) (hn_7 : (k + 1).toNatClampNeg < n_7 + 1) (h1k : k < ln - 1) (hlo : -2 ≤ k) (hpv : pv f (k + 1).toNatClampNeg = pv f (ln.toNatClampNeg - 1)) (c_2 : ¬ k < 0) (ev_4 : v_4 = f k.toNatClampNeg) (ev_5 : v_5 = k + 1) (ev_6 : v_6 = f v_5.toNatClampNeg) (c_7 : v_4 ≤ v_6) (c_8 : 0 ≤ k) (ev_9 : v_9 = ln - 1) (hn_47 : k2.toNatClampNeg < n_47 + 1) (h0k : 0 ≤ k) (h2k : k2 < ln) (h3k : k ≤ k2) (hsj : sj f k.toNatClampNeg k2.toNatClampNeg = sj f k.toNatClampNeg (ln.toNatClampNeg - 1)) (c_10 : ¬ k2 ≤ k) (ev_24 : v_24 = f k2.toNatClampNeg) (ev_25 : v_25 = f k.toNatClampNeg) (c_26 : v_25 ≤ v_24) (w_28 : f2_29 = upd (upd f k.toNatClampNeg (f k2.toNatClampNeg)) k2.toNatClampNeg (f k.toNatClampNeg)) (ev_31 : v_31 = k + 1) (ev_32 : v_32 = ln - 1) : v_31 ≤ v_32 + 1 := by
  grind
set_option maxHeartbeats 1000000 in
theorem pf_X2_toNext_57 (ln : Int32) (f : Nat → Int32) (v_1 : Int32) (n_7 : Nat) (k : Int32) (v_4 : Int32) (v_5 : Int32) (v_6 : Int32) (v_9 : Int32) (n_47 : Nat) (k2 : Int32) (v_24 : Int32) (v_25 : Int32) (f2_29 : Nat → Int32) (v_31 : Int32) (v_32 : Int32) (hl0 : 0 ≤ ln) (hl1 : ln ≤ 10) (hr0 : okRow f ln) (ev_1 : v_1 = ln - 2) (hn_7 : (k + 1).toNatClampNeg < n_7 + 1) (h1k : k < ln - 1) (hlo : -2 ≤ k) (hpv : pv f (k + 1).toNatClampNeg = pv f (ln.toNatClampNeg - 1)) (c_2 : ¬ k < 0) (ev_4 : v_4 = f k.toNatClampNeg) (ev_5 : v_5 = k + 1) (ev_6 : v_6 = f v_5.toNatClampNeg) (c_7 : v_4 ≤ v_6) (c_8 : 0 ≤ k) (ev_9 : v_9 = ln - 1) (hn_47 : k2.toNatClampNeg < n_47 + 1) (h0k : 0 ≤ k) (h2k : k2 < ln) (h3k : k ≤ k2) (hsj : sj f k.toNatClampNeg k2.toNatClampNeg = sj f k.toNatClampNeg (ln.toNatClampNeg - 1)) (c_10 : ¬ k2 ≤ k) (ev_24 : v_24 = f k2.toNatClampNeg) (ev_25 : v_25 = f k.toNatClampNeg) (c_26 : v_25 ≤ v_24) (w_28 : f2_29 = upd (upd f k.toNatClampNeg (f k2.toNatClampNeg)) k2.toNatClampNeg (f k.toNatClampNeg)) (ev_31 : v_31 = k + 1) (ev_32 : v_32 = ln - 1) : f2_29 = rvP f2_29 (k + 1).toNatClampNeg (ln.toNatClampNeg - 1) v_31.toNatClampNeg v_32.toNatClampNeg := by
  exact rv_0 (by grind) (by assumption) (by assumption)
set_option maxHeartbeats 1000000 in
theorem pf_X2_toNext_58 (ln : Int32) (f : Nat → Int32) (v_1 : Int32) (n_7 : Nat) (k : Int32) (v_4 : Int32) (v_5 : Int32) (v_6 : Int32) (v_9 : Int32) (n_47 : Nat) (k2 : Int32) (v_24 : Int32) (v_25 : Int32) (v_40 : Int32) (hl0 : 0 ≤ ln) (hl1 : ln ≤ 10) (hr0 : okRow f ln) (ev_1 : v_1 = ln - 2) (hn_7 : (k + 1).toNatClampNeg < n_7 + 1) (h1k : k < ln - 1) (hlo : -2 ≤ k) (hpv : pv f (k + 1).toNatClampNeg = pv f (ln.toNatClampNeg - 1)) (c_2 : ¬ k < 0) (ev_4 : v_4 = f k.toNatClampNeg) (ev_5 : v_5 = k + 1) (ev_6 : v_6 = f v_5.toNatClampNeg) (c_7 : v_4 ≤ v_6) (c_8 : 0 ≤ k) (ev_9 : v_9 = ln - 1) (hn_47 : k2.toNatClampNeg < n_47 + 1) (h0k : 0 ≤ k) (h2k : k2 < ln) (h3k : k ≤ k2) (hsj : sj f k.toNatClampNeg k2.toNatClampNeg = sj f k.toNatClampNeg (ln.toNatClampNeg - 1)) (c_10 : ¬ k2 ≤ k) (ev_24 : v_24 = f k2.toNatClampNeg) (ev_25 : v_25 = f k.toNatClampNeg) (c_26 : ¬ v_25 ≤ v_24) (ev_40 : v_40 = k2 + (-1)) : v_40.toNatClampNeg < n_47 := by
  exact ms_down (k := k2) (by grind) (by grind) hn_47
set_option maxHeartbeats 1000000 in
theorem pf_X2_toNext_59 (ln : Int32) (f : Nat → Int32) (v_1 : Int32) (n_7 : Nat) (k : Int32) (v_4 : Int32) (v_5 : Int32) (v_6 : Int32) (v_9 : Int32) (n_47 : Nat) (k2 : Int32) (v_24 : Int32) (v_25 : Int32) (v_40 : Int32) (hl0 : 0 ≤ ln) (hl1 : ln ≤ 10) (hr0 : okRow f ln) (ev_1 : v_1 = ln - 2) (hn_7 : (k + 1).toNatClampNeg < n_7 + 1) (h1k : k < ln - 1) (hlo : -2 ≤ k) (hpv : pv f (k + 1).toNatClampNeg = pv f (ln.toNatClampNeg - 1)) (c_2 : ¬ k < 0) (ev_4 : v_4 = f k.toNatClampNeg) (ev_5 : v_5 = k + 1) (ev_6 : v_6 = f v_5.toNatClampNeg) (c_7 : v_4 ≤ v_6) (c_8 : 0 ≤ k) (ev_9 : v_9 = ln - 1) (hn_47 : k2.toNatClampNeg < n_47 + 1) (h0k : 0 ≤ k) (h2k : k2 < ln) (h3k : k ≤ k2) (hsj : sj f k.toNatClampNeg k2.toNatClampNeg = sj f k.toNatClampNeg (ln.toNatClampNeg - 1)) (c_10 : ¬ k2 ≤ k) (ev_24 : v_24 = f k2.toNatClampNeg) (ev_25 : v_25 = f k.toNatClampNeg) (c_26 : ¬ v_25 ≤ v_24) (ev_40 : v_40 = k2 + (-1)) : 0 ≤ k := by
  grind
set_option maxHeartbeats 1000000 in
theorem pf_X2_toNext_60 (ln : Int32) (f : Nat → Int32) (v_1 : Int32) (n_7 : Nat) (k : Int32) (v_4 : Int32) (v_5 : Int32) (v_6 : Int32) (v_9 : Int32) (n_47 : Nat) (k2 : Int32) (v_24 : Int32) (v_25 : Int32) (v_40 : Int32) (hl0 : 0 ≤ ln) (hl1 : ln ≤ 10) (hr0 : okRow f ln) (ev_1 : v_1 = ln - 2) (hn_7 : (k + 1).toNatClampNeg < n_7 + 1) (h1k : k < ln - 1) (hlo : -2 ≤ k) (hpv : pv f (k + 1).toNatClampNeg = pv f (ln.toNatClampNeg - 1)) (c_2 : ¬ k < 0) (ev_4 : v_4 = f k.toNatClampNeg) (ev_5 : v_5 = k + 1) (ev_6 : v_6 = f v_5.toNatClampNeg) (c_7 : v_4 ≤ v_6) (c_8 : 0 ≤ k) (ev_9 : v_9 = ln - 1) (hn_47 : k2.toNatClampNeg < n_47 + 1) (h0k : 0 ≤ k) (h2k : k2 < ln) (h3k : k ≤ k2) (hsj : sj f k.toNatClampNeg k2.toNatClampNeg = sj f k.toNatClampNeg (ln.toNatClampNeg - 1)) (c_10 : ¬ k2 ≤ k) (ev_24 : v_24 = f k2.toNatClampNeg) (ev_25 : v_25 = f k.toNatClampNeg) (c_26 : ¬ v_25 ≤ v_24) (ev_40 : v_40 = k2 + (-1)) : v_40 < ln := by
  grind
set_option maxHeartbeats 1000000 in
theorem pf_X2_toNext_61 (ln : Int32) (f : Nat → Int32) (v_1 : Int32) (n_7 : Nat) (k : Int32) (v_4 : Int32) (v_5 : Int32) (v_6 : Int32) (v_9 : Int32) (n_47 : Nat) (k2 : Int32) (v_24 : Int32) (v_25 : Int32) (v_40 : Int32) (hl0 : 0 ≤ ln) (hl1 : ln ≤ 10) (hr0 : okRow f ln) (ev_1 : v_1 = ln - 2) (hn_7 : (k + 1).toNatClampNeg < n_7 + 1) (h1k : k < ln - 1) (hlo : -2 ≤ k) (hpv : pv f (k + 1).toNatClampNeg = pv f (ln.toNatClampNeg - 1)) (c_2 : ¬ k < 0) (ev_4 : v_4 = f k.toNatClampNeg) (ev_5 : v_5 = k + 1) (ev_6 : v_6 = f v_5.toNatClampNeg) (c_7 : v_4 ≤ v_6) (c_8 : 0 ≤ k) (ev_9 : v_9 = ln - 1) (hn_47 : k2.toNatClampNeg < n_47 + 1) (h0k : 0 ≤ k) (h2k : k2 < ln) (h3k : k ≤ k2) (hsj : sj f k.toNatClampNeg k2.toNatClampNeg = sj f k.toNatClampNeg (ln.toNatClampNeg - 1)) (c_10 : ¬ k2 ≤ k) (ev_24 : v_24 = f k2.toNatClampNeg) (ev_25 : v_25 = f k.toNatClampNeg) (c_26 : ¬ v_25 ≤ v_24) (ev_40 : v_40 = k2 + (-1)) : k ≤ v_40 := by
  grind
set_option maxHeartbeats 1000000 in
theorem pf_X2_toNext_62 (ln : Int32) (f : Nat → Int32) (v_1 : Int32) (n_7 : Nat) (k : Int32) (v_4 : Int32) (v_5 : Int32) (v_6 : Int32) (v_9 : Int32) (n_47 : Nat) (k2 : Int32) (v_24 : Int32) (v_25 : Int32) (v_40 : Int32) (hl0 : 0 ≤ ln) (hl1 : ln ≤ 10) (hr0 : okRow f ln) (ev_1 : v_1 = ln - 2) (hn_7 : (k + 1).toNatClampNeg < n_7 + 1) (h1k : k < ln - 1) (hlo : -2 ≤ k) (hpv : pv f (k + 1).toNatClampNeg = pv f (ln.toNatClampNeg - 1)) (c_2 : ¬ k < 0) (ev_4 : v_4 = f k.toNatClampNeg) (ev_5 : v_5 = k + 1) (ev_6 : v_6 = f v_5.toNatClampNeg) (c_7 : v_4 ≤ v_6) (c_8 : 0 ≤ k) (ev_9 : v_9 = ln - 1) (hn_47 : k2.toNatClampNeg < n_47 + 1) (h0k : 0 ≤ k) (h2k : k2 < ln) (h3k : k ≤ k2) (hsj : sj f k.toNatClampNeg k2.toNatClampNeg = sj f k.toNatClampNeg (ln.toNatClampNeg - 1)) (c_10 : ¬ k2 ≤ k) (ev_24 : v_24 = f k2.toNatClampNeg) (ev_25 : v_25 = f k.toNatClampNeg) (c_26 : ¬ v_25 ≤ v_24) (ev_40 : v_40 = k2 + (-1)) : sj f k.toNatClampNeg v_40.toNatClampNeg = sj f k.toNatClampNeg (ln.toNatClampNeg - 1) := by
  exact sj_b h0k (by grind) (by assumption) (by grind) hsj
set_option maxHeartbeats 1000000 in
theorem pf_X2_toNext_63 (ln : Int32) (f : Nat → Int32) (v_1 : Int32) (n_7 : Nat) (k : Int32) (v_4 : Int32) (v_5 : Int32) (v_6 : Int32) (v_9 : Int32) (hl0 : 0 ≤ ln) (hl1 : ln ≤ 10) (hr0 : okRow f ln) (ev_1 : v_1 = ln - 2) (hn_7 : (k + 1).toNatClampNeg < n_7 + 1) (h1k : k < ln - 1) (hlo : -2 ≤ k) (hpv : pv f (k + 1).toNatClampNeg = pv f (ln.toNatClampNeg - 1)) (c_2 : ¬ k < 0) (ev_4 : v_4 = f k.toNatClampNeg) (ev_5 : v_5 = k + 1) (ev_6 : v_6 = f v_5.toNatClampNeg) (c_7 : v_4 ≤ v_6) (c_8 : 0 ≤ k) (ev_9 : v_9 = ln - 1) : 0 ≤ k := by
  grind
set_option maxHeartbeats 1000000 in
theorem pf_X2_toNext_64 (ln : Int32) (f : Nat → Int32) (v_1 : Int32) (n_7 : Nat) (k : Int32) (v_4 : Int32) (v_5 : Int32) (v_6 : Int32) (v_9 : Int32) (hl0 : 0 ≤ ln) (hl1 : ln ≤ 10) (hr0 : okRow f ln) (ev_1 : v_1 = ln - 2) (hn_7 : (k + 1).toNatClampNeg < n_7 + 1) (h1k : k < ln - 1) (hlo : -2 ≤ k) (hpv : pv f (k + 1).toNatClampNeg = pv f (ln.toNatClampNeg - 1)) (c_2 : ¬ k < 0) (ev_4 : v_4 = f k.toNatClampNeg) (ev_5 : v_5 = k + 1) (ev_6 : v_6 = f v_5.toNatClampNeg) (c_7 : v_4 ≤ v_6) (c_8 : 0 ≤ k) (ev_9 : v_9 = ln - 1) : v_9 < ln := by
  grind
set_option maxHeartbeats 1000000 in
theorem pf_X2_toNext_65 (ln : Int32) (f : Nat → Int32) (v_1 : Int32) (n_7 : Nat) (k : Int32) (v_4 : Int32) (v_5 : Int32) (v_6 : Int32) (v_9 : Int32) (hl0 : 0 ≤ ln) (hl1 : ln ≤ 10) (hr0 : okRow f ln) (ev_1 : v_1 = ln - 2) (hn_7 : (k + 1).toNatClampNeg < n_7 + 1) (h1k : k < ln - 1) (hlo : -2 ≤ k) (hpv : pv f (k + 1).toNatClampNeg = pv f (ln.toNatClampNeg - 1)) (c_2 : ¬ k < 0) (ev_4 : v_4 = f k.toNatClampNeg) (ev_5 : v_5 = k + 1) (ev_6 : v_6 = f v_5.toNatClampNeg) (c_7 : v_4 ≤ v_6) (c_8 : 0 ≤ k) (ev_9 : v_9 = ln - 1) : k ≤ v_9 := by
  grind
set_option maxHeartbeats 1000000 in
theorem pf_X2_toNext_66 (ln : Int32) (f : Nat → Int32) (v_1 : Int32) (n_7 : Nat) (k : Int32) (v_4 : Int32) (v_5 : Int32) (v_6 : Int32) (v_9 : Int32) (hl0 : 0 ≤ ln) (hl1 : ln ≤ 10) (hr0 : okRow f ln) (ev_1 : v_1 = ln - 2) (hn_7 : (k + 1).toNatClampNeg < n_7 + 1) (h1k : k < ln - 1) (hlo : -2 ≤ k) (hpv : pv f (k + 1).toNatClampNeg = pv f (ln.toNatClampNeg - 1)) (c_2 : ¬ k < 0) (ev_4 : v_4 = f k.toNatClampNeg) (ev_5 : v_5 = k + 1) (ev_6 : v_6 = f v_5.toNatClampNeg) (c_7 : v_4 ≤ v_6) (c_8 : 0 ≤ k) (ev_9 : v_9 = ln - 1) : sj f k.toNatClampNeg v_9.toNatClampNeg = sj f k.toNatClampNeg (ln.toNatClampNeg - 1) := by
  exact sj_0 (by grind) (by assumption)
set_option maxHeartbeats 1000000 in
theorem pf_X2_toNext_67 (ln : Int32) (f : Nat → Int32) (v_1 : Int32) (n_7 : Nat) (k : Int32) (v_4 : Int32) (v_5 : Int32) (v_6 : Int32) (v_41 : Int32) (hl0 : 0 ≤ ln) (hl1 : ln ≤ 10) (hr0 : okRow f ln) (ev_1 : v_1 = ln - 2) (hn_7 : (k + 1).toNatClampNeg < n_7 + 1) (h1k : k < ln - 1) (hlo : -2 ≤ k) (hpv : pv f (k + 1).toNatClampNeg = pv f (ln.toNatClampNeg - 1)) (c_2 : ¬ k < 0) (ev_4 : v_4 = f k.toNatClampNeg) (ev_5 : v_5 = k + 1) (ev_6 : v_6 = f v_5.toNatClampNeg) (c_7 : ¬ v_4 ≤ v_6) (ev_41 : v_41 = k + (-1)) : (v_41 + 1).toNatClampNeg < n_7 := by
  exact ms_down (k := k + 1) (by grind) (by grind) hn_7
set_option maxHeartbeats 1000000 in
theorem pf_X2_toNext_68 (ln : Int32) (f : Nat → Int32) (v_1 : Int32) (n_7 : Nat) (k : Int32) (v_4 : Int32) (v_5 : Int32) (v_6 : Int32) (v_41 : Int32) (hl0 : 0 ≤ ln) (hl1 : ln ≤ 10) (hr0 : okRow f ln) (ev_1 : v_1 = ln - 2) (hn_7 : (k + 1).toNatClampNeg < n_7 + 1) (h1k : k < ln - 1) (hlo : -2 ≤ k) (hpv : pv f (k + 1).toNatClampNeg = pv f (ln.toNatClampNeg - 1)) (c_2 : ¬ k < 0) (ev_4 : v_4 = f k.toNatClampNeg) (ev_5 : v_5 = k + 1) (ev_6 : v_6 = f v_5.toNatClampNeg) (c_7 : ¬ v_4 ≤ v_6) (ev_41 : v_41 = k + (-1)) : v_41 < ln - 1 := by
  grind
set_option maxHeartbeats 1000000 in
theorem pf_X2_toNext_69 (ln : Int32) (f : Nat → Int32) (v_1 : Int32) (n_7 : Nat) (k : Int32) (v_4 : Int32) (v_5 : Int32) (v_6 : Int32) (v_41 : Int32) (hl0 : 0 ≤ ln) (hl1 : ln ≤ 10) (hr0 : okRow f ln) (ev_1 : v_1 = ln - 2) (hn_7 : (k + 1).toNatClampNeg < n_7 + 1) (h1k : k < ln - 1) (hlo : -2 ≤ k) (hpv : pv f (k + 1).toNatClampNeg = pv f (ln.toNatClampNeg - 1)) (c_2 : ¬ k < 0) (ev_4 : v_4 = f k.toNatClampNeg) (ev_5 : v_5 = k + 1) (ev_6 : v_6 = f v_5.toNatClampNeg) (c_7 : ¬ v_4 ≤ v_6) (ev_41 : v_41 = k + (-1)) : -2 ≤ v_41 := by
  grind
set_option maxHeartbeats 1000000 in
theorem pf_X2_toNext_70 (ln : Int32) (f : Nat → Int32) (v_1 : Int32) (n_7 : Nat) (k : Int32) (v_4 : Int32) (v_5 : Int32) (v_6 : Int32) (v_41 : Int32) (hl0 : 0 ≤ ln) (hl1 : ln ≤ 10) (hr0 : okRow f ln) (ev_1 : v_1 = ln - 2) (hn_7 : (k + 1).toNatClampNeg < n_7 + 1) (h1k : k < ln - 1) (hlo : -2 ≤ k) (hpv : pv f (k + 1).toNatClampNeg = pv f (ln.toNatClampNeg - 1)) (c_2 : ¬ k < 0) (ev_4 : v_4 = f k.toNatClampNeg) (ev_5 : v_5 = k + 1) (ev_6 : v_6 = f v_5.toNatClampNeg) (c_7 : ¬ v_4 ≤ v_6) (ev_41 : v_41 = k + (-1)) : pv f (v_41 + 1).toNatClampNeg = pv f (ln.toNatClampNeg - 1) := by
  exact pv_b (by grind) (by grind) (by assumption) (by grind) hpv
set_option maxHeartbeats 1000000 in
theorem pf_X2_toNext_71 (ln : Int32) (f : Nat → Int32) (v_1 : Int32) (hl0 : 0 ≤ ln) (hl1 : ln ≤ 10) (hr0 : okRow f ln) (ev_1 : v_1 = ln - 2) : v_1 < ln - 1 := by
  grind
set_option maxHeartbeats 1000000 in
theorem pf_X2_toNext_72 (ln : Int32) (f : Nat → Int32) (v_1 : Int32) (hl0 : 0 ≤ ln) (hl1 : ln ≤ 10) (hr0 : okRow f ln) (ev_1 : v_1 = ln - 2) : -2 ≤ v_1 := by
  grind
set_option maxHeartbeats 1000000 in
theorem pf_X2_toNext_73 (ln : Int32) (f : Nat → Int32) (v_1 : Int32) (hl0 : 0 ≤ ln) (hl1 : ln ≤ 10) (hr0 : okRow f ln) (ev_1 : v_1 = ln - 2) : pv f (v_1 + 1).toNatClampNeg = pv f (ln.toNatClampNeg - 1) := by
  exact pv_0 hl0 hl1 (by assumption)
set_option maxHeartbeats 4000000 in
set_option maxRecDepth 100000 in
theorem c_X2_toNext (l : Launch) (D : va_G) (cI cQ : ClassId) (sz : Nat) (h2 : Nat) (s0 : Nat) (ln : Int32) (f : Nat → Int32) (hl0 : 0 ≤ ln) (hl1 : ln ≤ 10) (hr0 : okRow f ln) : CtI l yX2_toNext wsX2_toNext 1 23 0 0 [.ref h2] D [(cI, .int), (cQ, .array .int)] [(h2, .inr (2, [.ref s0, .int ln])), (s0, .inl (cI, 10, .inl f))] sz (fun (r : Int32) (u : (Nat → Int32)) => okRow u ln ∧ (r = 0 ↔ pv f (ln.toNatClampNeg - 1) = 0) ∧ (¬ r = 0 → u = nxF f ln.toNatClampNeg)) (fun (u : (Nat → Int32)) => [(h2, .inr (2, [.ref s0, .int ln])), (s0, .inl (cI, 10, .inl u))]) := by
  refine Met.ofW (cc := cX2_toNext) (maxL := 5) (ret := (some .boolean)) (by decide) rfl ?_
  intro p e s m args below meth c s₁ B hml hv
  obtain ⟨rfl, hsz, hP, hK, hD0, hN⟩ := hv
  have hx := B.exec
  have hb := B.bytes
  have hr := B.returns
  have hts := atoms_spec (ws := wsX2_toNext) B.pre
  have hown : s.vm.findClass RX2 = some m.cls := findClass_of_methodNamed B.named
  have hlocks := B.notSynchronized
  subst hsz
  have hD := hD0.self (sz := s.heap.size)
  generalize hAe : va_A [(h2, .inr (2, [.ref s0, .int ln])), (s0, .inl (cI, 10, .inl f))] s.heap.size = A at hD ⊢
  have hA : ∀ q : Nat, s.heap.size ≤ q → A q := fun q h => by rw [← hAe]; exact Or.inr h
  have hS : va_S A s.heap s.heap [] := va_S.rf
  have hl := lv_entry ([.ref h2]) (n := 5) (Nat.le_of_ble_eq_true rfl)
  rw [lg_entry_eq]
  generalize (lg_sl ([.ref h2]) ++ List.replicate (5 - (lg_sl ([.ref h2])).length) Slot.unset).toArray = ls at hl ⊢
  have hl : lv_has ls 5 [(0, .ref h2)] := hl
  refine W_gen (fun GW hIn hOut => ?_)
  refine hIn _ _ _ _ _ ?_
  have hP0 := hP
  refine lv_aload_n hx hb dX2_toNext_0 rfl (lv_at hl 0 rfl) ?_
  refine va_get (D := D) (ci := 2) (v := .int ln) (C := RX2) (T := TX2) (N := 2) hx hb hts iw_X2_toNext_2 hown hK hP 0 rfl rfl 1 (by decide) (hts _ wd_X2_toNext_1) (fun _ h9 => h9) rfl dX2_toNext_1 ?_
  refine lv_iconst (v := 2) hx hb dX2_toNext_4 (by decide) ?_
  refine lv_isub hx hb dX2_toNext_5 ?_
  refine lv_topi (fun v_1 ev_1 => ?_)
  refine lv_istore_n (lv' := [(1, .int v_1), (0, .ref h2)]) hx hb dX2_toNext_6 rfl hl (by decide) rfl (fun ls hl => ?_)
  have lp_7 : ∀ (n : Nat) (k : Int32) (H : Heap) (locs : List Loc) (ls : Array Slot), (k + 1).toNatClampNeg < n → (k < ln - 1) → (-2 ≤ k) → (pv f (k + 1).toNatClampNeg = pv f (ln.toNatClampNeg - 1)) → va_P D vwCl [(h2, .inr (2, [.ref s0, .int ln])), (s0, .inl (cI, 10, .inl f))] H → va_D A [(h2, .inr (2, [.ref s0, .int ln])), (s0, .inl (cI, 10, .inl f))] → va_S A s.heap H locs → lv_has ls 5 [(0, .ref h2), (1, .int k)] → GW H locs 0 0 (F0 m 7 ls []) := by
    intro n_7
    induction n_7 with
    | zero => intro k H locs ls hn_7; exact absurd hn_7 (Nat.not_lt_zero _)
    | succ n_7 ih_7 =>
      intro k H locs ls hn_7 h1k hlo hpv hP hD hS hl
      refine hIn _ _ _ _ _ ?_
      refine lv_iload_n hx hb dX2_toNext_7 rfl (lv_at hl 1 rfl) ?_
      refine lv_if_lt (tgt := 34) hx hb dX2_toNext_8 (by decide) (fun c_2 => ?_) (fun c_2 => ?_)
      · refine lv_iload_n hx hb dX2_toNext_34 rfl (lv_at hl 1 rfl) ?_
        refine lv_if_ge (tgt := 40) hx hb dX2_toNext_35 (by decide) (fun c_3 => absurd (pf_X2_toNext_1 ln f v_1 n_7 k hl0 hl1 hr0 ev_1 hn_7 h1k hlo hpv c_2 c_3) id) (fun c_3 => ?_)
        refine lv_iconst (v := 0) hx hb dX2_toNext_38 (by decide) ?_
        refine W.widen (k := 0) (n := 0) (Nat.le_of_ble_eq_true rfl) (Nat.le_of_ble_eq_true rfl) ?_
        exact fi_z f hx hb hr rfl hlocks hK (hP.sub [0, 1] rfl) (hD.sub [0, 1] (by decide) rfl) hS ⟨(pf_X2_toNext_2 ln f v_1 n_7 k hl0 hl1 hr0 ev_1 hn_7 h1k hlo hpv c_2 c_3), (pf_X2_toNext_3 ln f v_1 n_7 k hl0 hl1 hr0 ev_1 hn_7 h1k hlo hpv c_2 c_3), (pf_X2_toNext_4 ln f v_1 n_7 k hl0 hl1 hr0 ev_1 hn_7 h1k hlo hpv c_2 c_3)⟩ dX2_toNext_39
      · refine lv_aload_n hx hb dX2_toNext_11 rfl (lv_at hl 0 rfl) ?_
        refine va_get (D := D) (ci := 2) (v := .ref s0) (C := RX2) (T := TX2) (N := 2) hx hb hts iw_X2_toNext_2 hown hK hP 0 rfl rfl 0 (by decide) (hts _ wd_X2_toNext_2) (fun _ h9 => h9) rfl dX2_toNext_12 ?_
        refine lv_iload_n hx hb dX2_toNext_15 rfl (lv_at hl 1 rfl) ?_
        refine va_iald hx hb hK hP 1 0 rfl rfl (pf_X2_toNext_5 ln f v_1 n_7 k hl0 hl1 hr0 ev_1 hn_7 h1k hlo hpv c_2) dX2_toNext_16 ?_
        refine lv_topi (fun v_4 ev_4 => ?_)
        refine lv_aload_n hx hb dX2_toNext_17 rfl (lv_at hl 0 rfl) ?_
        refine va_get (D := D) (ci := 2) (v := .ref s0) (C := RX2) (T := TX2) (N := 2) hx hb hts iw_X2_toNext_2 hown hK hP 0 rfl rfl 0 (by decide) (hts _ wd_X2_toNext_2) (fun _ h9 => h9) rfl dX2_toNext_18 ?_
        refine lv_iload_n hx hb dX2_toNext_21 rfl (lv_at hl 1 rfl) ?_
        refine lv_iconst (v := 1) hx hb dX2_toNext_22 (by decide) ?_
        refine lv_iadd hx hb dX2_toNext_23 ?_
        refine lv_topi (fun v_5 ev_5 => ?_)
        refine va_iald hx hb hK hP 1 0 rfl rfl (pf_X2_toNext_6 ln f v_1 n_7 k v_4 v_5 hl0 hl1 hr0 ev_1 hn_7 h1k hlo hpv c_2 ev_4 ev_5) dX2_toNext_24 ?_
        refine lv_topi (fun v_6 ev_6 => ?_)
        refine lv_icmp_le (tgt := 34) hx hb dX2_toNext_25 (by decide) (fun c_7 => ?_) (fun c_7 => ?_)
        · refine lv_iload_n hx hb dX2_toNext_34 rfl (lv_at hl 1 rfl) ?_
          refine lv_if_ge (tgt := 40) hx hb dX2_toNext_35 (by decide) (fun c_8 => ?_) (fun c_8 => absurd (pf_X2_toNext_7 ln f v_1 n_7 k v_4 v_5 v_6 hl0 hl1 hr0 ev_1 hn_7 h1k hlo hpv c_2 ev_4 ev_5 ev_6 c_7 c_8) id)
          refine lv_aload_n hx hb dX2_toNext_40 rfl (lv_at hl 0 rfl) ?_
          refine va_get (D := D) (ci := 2) (v := .int ln) (C := RX2) (T := TX2) (N := 2) hx hb hts iw_X2_toNext_2 hown hK hP 0 rfl rfl 1 (by decide) (hts _ wd_X2_toNext_1) (fun _ h9 => h9) rfl dX2_toNext_41 ?_
          refine lv_iconst (v := 1) hx hb dX2_toNext_44 (by decide) ?_
          refine lv_isub hx hb dX2_toNext_45 ?_
          refine lv_topi (fun v_9 ev_9 => ?_)
          refine lv_istore_n (lv' := [(2, .int v_9), (0, .ref h2), (1, .int k)]) hx hb dX2_toNext_46 rfl hl (by decide) rfl (fun ls hl => ?_)
          have lp_47 : ∀ (n : Nat) (k2 : Int32) (H : Heap) (locs : List Loc) (ls : Array Slot), k2.toNatClampNeg < n → (0 ≤ k) → (k2 < ln) → (k ≤ k2) → (sj f k.toNatClampNeg k2.toNatClampNeg = sj f k.toNatClampNeg (ln.toNatClampNeg - 1)) → va_P D vwCl [(h2, .inr (2, [.ref s0, .int ln])), (s0, .inl (cI, 10, .inl f))] H → va_D A [(h2, .inr (2, [.ref s0, .int ln])), (s0, .inl (cI, 10, .inl f))] → va_S A s.heap H locs → lv_has ls 5 [(0, .ref h2), (1, .int k), (2, .int k2)] → GW H locs 0 0 (F0 m 47 ls []) := by
            intro n_47
            induction n_47 with
            | zero => intro k2 H locs ls hn_47; exact absurd hn_47 (Nat.not_lt_zero _)
            | succ n_47 ih_47 =>
              intro k2 H locs ls hn_47 h0k h2k h3k hsj hP hD hS hl
              refine hIn _ _ _ _ _ ?_
              refine lv_iload_n hx hb dX2_toNext_47 rfl (lv_at hl 2 rfl) ?_
              refine lv_iload_n hx hb dX2_toNext_48 rfl (lv_at hl 1 rfl) ?_
              refine lv_icmp_le (tgt := 73) hx hb dX2_toNext_49 (by decide) (fun c_10 => ?_) (fun c_10 => ?_)
              · refine lv_aload_n hx hb dX2_toNext_73 rfl (lv_at hl 0 rfl) ?_
                refine lv_iload_n hx hb dX2_toNext_74 rfl (lv_at hl 1 rfl) ?_
                refine lv_iload_n hx hb dX2_toNext_75 rfl (lv_at hl 2 rfl) ?_
                refine cc_v (wc := [(h2, .inr (2, [.ref s0, .int ln])), (s0, .inl (cI, 10, .inl f))]) (wr := []) (va_runV (As := [.int k, .int k2]) (rest := []) ⟨hx, hb, hml, hown, hts⟩ (c_X2_swap l D cI cQ H.size h2 s0 ln f k k2 (pf_X2_toNext_8 ln f v_1 n_7 k v_4 v_5 v_6 v_9 n_47 k2 hl0 hl1 hr0 ev_1 hn_7 h1k hlo hpv c_2 ev_4 ev_5 ev_6 c_7 c_8 ev_9 hn_47 h0k h2k h3k hsj c_10) (pf_X2_toNext_9 ln f v_1 n_7 k v_4 v_5 v_6 v_9 n_47 k2 hl0 hl1 hr0 ev_1 hn_7 h1k hlo hpv c_2 ev_4 ev_5 ev_6 c_7 c_8 ev_9 hn_47 h0k h2k h3k hsj c_10)) (cwV 2 hts gX2_toNext_X2_swap rfl rfl rfl (by decide +kernel) ⟨Nat.le_of_ble_eq_true rfl, Nat.le_of_ble_eq_true rfl⟩) (preV (wc := [(h2, .inr (2, [.ref s0, .int ln])), (s0, .inl (cI, 10, .inl f))]) (ci := 2) (q0 := 0) hK hP hD hN [0, 1] rfl (by decide) rfl rfl) rfl rfl hl.1 rfl (lv_room (Nat.le_of_ble_eq_true rfl)) dX2_toNext_76 ⟨Nat.le_of_ble_eq_true rfl, Nat.le_of_ble_eq_true rfl⟩) hP hD hS hA [0, 1] [] rfl rfl (by decide) (by decide) (fun u H locs w_12 hP hD hS => ?_)
                obtain ⟨f2_13, rfl⟩ : ∃ z, z = u := ⟨_, rfl⟩
                have hP : va_P D vwCl [(h2, .inr (2, [.ref s0, .int ln])), (s0, .inl (cI, 10, .inl f2_13))] H := hP
                have hD : va_D A [(h2, .inr (2, [.ref s0, .int ln])), (s0, .inl (cI, 10, .inl f2_13))] := hD
                have w_12 : f2_13 = upd (upd f k.toNatClampNeg (f k2.toNatClampNeg)) k2.toNatClampNeg (f k.toNatClampNeg) := w_12
                refine lv_iload_n hx hb dX2_toNext_79 rfl (lv_at hl 1 rfl) ?_
                refine lv_iconst (v := 1) hx hb dX2_toNext_80 (by decide) ?_
                refine lv_iadd hx hb dX2_toNext_81 ?_
                refine lv_topi (fun v_15 ev_15 => ?_)
                refine lv_istore_n (lv' := [(3, .int v_15), (0, .ref h2), (1, .int k), (2, .int k2)]) hx hb dX2_toNext_82 rfl hl (by decide) rfl (fun ls hl => ?_)
                refine lv_aload_n hx hb dX2_toNext_83 rfl (lv_at hl 1 rfl) ?_
                refine va_get (D := D) (ci := 2) (v := .int ln) (C := RX2) (T := TX2) (N := 2) hx hb hts iw_X2_toNext_2 hown hK hP 0 rfl rfl 1 (by decide) (hts _ wd_X2_toNext_1) (fun _ h9 => h9) rfl dX2_toNext_84 ?_
                refine lv_iconst (v := 1) hx hb dX2_toNext_87 (by decide) ?_
                refine lv_isub hx hb dX2_toNext_88 ?_
                refine lv_topi (fun v_16 ev_16 => ?_)
                refine lv_istore (lv' := [(4, .int v_16), (3, .int v_15), (0, .ref h2), (1, .int k), (2, .int k2)]) hx hb dX2_toNext_89 hl (by decide) rfl (fun ls hl => ?_)
                have lp_91 : ∀ (n : Nat) (k3 : Int32) (k4 : Int32) (fa : Nat → Int32) (H : Heap) (locs : List Loc) (ls : Array Slot), 10 - k3.toNatClampNeg < n → (1 ≤ k3) → (k4 < ln) → (k3 ≤ 20) → (okRow fa ln) → (k + 1 ≤ k3) → (k3 + k4 = k + ln) → (k3 ≤ k4 + 1) → (fa = rvP f2_13 (k + 1).toNatClampNeg (ln.toNatClampNeg - 1) k3.toNatClampNeg k4.toNatClampNeg) → va_P D vwCl [(h2, .inr (2, [.ref s0, .int ln])), (s0, .inl (cI, 10, .inl fa))] H → va_D A [(h2, .inr (2, [.ref s0, .int ln])), (s0, .inl (cI, 10, .inl fa))] → va_S A s.heap H locs → lv_has ls 5 [(0, .ref h2), (3, .int k3), (4, .int k4)] → GW H locs 0 0 (F0 m 91 ls []) := by
                  intro n_91
                  induction n_91 with
                  | zero => intro k3 k4 fa H locs ls hn_91; exact absurd hn_91 (Nat.not_lt_zero _)
                  | succ n_91 ih_91 =>
                    intro k3 k4 fa H locs ls hn_91 h4k h5k h6k hra hl3 hsm h34 hfa hP hD hS hl
                    refine hIn _ _ _ _ _ ?_
                    refine lv_iload_n hx hb dX2_toNext_91 rfl (lv_at hl 1 rfl) ?_
                    refine lv_iload hx hb dX2_toNext_92 (lv_at hl 2 rfl) ?_
                    refine lv_icmp_ge (tgt := 113) hx hb dX2_toNext_94 (by decide) (fun c_17 => ?_) (fun c_17 => ?_)
                    · refine lv_iconst (v := 1) hx hb dX2_toNext_113 (by decide) ?_
                      refine W.widen (k := 0) (n := 0) (Nat.le_of_ble_eq_true rfl) (Nat.le_of_ble_eq_true rfl) ?_
                      exact fi_z fa hx hb hr rfl hlocks hK (hP.sub [0, 1] rfl) (hD.sub [0, 1] (by decide) rfl) hS ⟨(pf_X2_toNext_10 ln f v_1 n_7 k v_4 v_5 v_6 v_9 n_47 k2 f2_13 v_15 v_16 n_91 k3 k4 fa hl0 hl1 hr0 ev_1 hn_7 h1k hlo hpv c_2 ev_4 ev_5 ev_6 c_7 c_8 ev_9 hn_47 h0k h2k h3k hsj c_10 w_12 ev_15 ev_16 hn_91 h4k h5k h6k hra hl3 hsm h34 hfa c_17), (pf_X2_toNext_11 ln f v_1 n_7 k v_4 v_5 v_6 v_9 n_47 k2 f2_13 v_15 v_16 n_91 k3 k4 fa hl0 hl1 hr0 ev_1 hn_7 h1k hlo hpv c_2 ev_4 ev_5 ev_6 c_7 c_8 ev_9 hn_47 h0k h2k h3k hsj c_10 w_12 ev_15 ev_16 hn_91 h4k h5k h6k hra hl3 hsm h34 hfa c_17), (pf_X2_toNext_12 ln f v_1 n_7 k v_4 v_5 v_6 v_9 n_47 k2 f2_13 v_15 v_16 n_91 k3 k4 fa hl0 hl1 hr0 ev_1 hn_7 h1k hlo hpv c_2 ev_4 ev_5 ev_6 c_7 c_8 ev_9 hn_47 h0k h2k h3k hsj c_10 w_12 ev_15 ev_16 hn_91 h4k h5k h6k hra hl3 hsm h34 hfa c_17)⟩ dX2_toNext_114
                    · refine lv_aload_n hx hb dX2_toNext_97 rfl (lv_at hl 0 rfl) ?_
                      refine lv_iload_n hx hb dX2_toNext_98 rfl (lv_at hl 1 rfl) ?_
                      refine lv_iload hx hb dX2_toNext_99 (lv_at hl 2 rfl) ?_
                      refine cc_v (wc := [(h2, .inr (2, [.ref s0, .int ln])), (s0, .inl (cI, 10, .inl fa))]) (wr := []) (va_runV (As := [.int k3, .int k4]) (rest := []) ⟨hx, hb, hml, hown, hts⟩ (c_X2_swap l D cI cQ H.size h2 s0 ln fa k3 k4 (pf_X2_toNext_13 ln f v_1 n_7 k v_4 v_5 v_6 v_9 n_47 k2 f2_13 v_15 v_16 n_91 k3 k4 fa hl0 hl1 hr0 ev_1 hn_7 h1k hlo hpv c_2 ev_4 ev_5 ev_6 c_7 c_8 ev_9 hn_47 h0k h2k h3k hsj c_10 w_12 ev_15 ev_16 hn_91 h4k h5k h6k hra hl3 hsm h34 hfa c_17) (pf_X2_toNext_14 ln f v_1 n_7 k v_4 v_5 v_6 v_9 n_47 k2 f2_13 v_15 v_16 n_91 k3 k4 fa hl0 hl1 hr0 ev_1 hn_7 h1k hlo hpv c_2 ev_4 ev_5 ev_6 c_7 c_8 ev_9 hn_47 h0k h2k h3k hsj c_10 w_12 ev_15 ev_16 hn_91 h4k h5k h6k hra hl3 hsm h34 hfa c_17)) (cwV 2 hts gX2_toNext_X2_swap rfl rfl rfl (by decide +kernel) ⟨Nat.le_of_ble_eq_true rfl, Nat.le_of_ble_eq_true rfl⟩) (preV (wc := [(h2, .inr (2, [.ref s0, .int ln])), (s0, .inl (cI, 10, .inl fa))]) (ci := 2) (q0 := 0) hK hP hD hN [0, 1] rfl (by decide) rfl rfl) rfl rfl hl.1 rfl (lv_room (Nat.le_of_ble_eq_true rfl)) dX2_toNext_101 ⟨Nat.le_of_ble_eq_true rfl, Nat.le_of_ble_eq_true rfl⟩) hP hD hS hA [0, 1] [] rfl rfl (by decide) (by decide) (fun u H locs w_19 hP hD hS => ?_)
                      obtain ⟨f2_20, rfl⟩ : ∃ z, z = u := ⟨_, rfl⟩
                      have hP : va_P D vwCl [(h2, .inr (2, [.ref s0, .int ln])), (s0, .inl (cI, 10, .inl f2_20))] H := hP
                      have hD : va_D A [(h2, .inr (2, [.ref s0, .int ln])), (s0, .inl (cI, 10, .inl f2_20))] := hD
                      have w_19 : f2_20 = upd (upd fa k3.toNatClampNeg (fa k4.toNatClampNeg)) k4.toNatClampNeg (fa k3.toNatClampNeg) := w_19
                      obtain ⟨v_22, ev_22⟩ : ∃ y : Int32, y = k3 + 1 := ⟨_, rfl⟩
                      refine lv_iinc (v := v_22) (lv' := [(3, .int v_22), (0, .ref h2), (4, .int k4)]) hx hb dX2_toNext_104 hl (k := 1) rfl (by rw [ev_22]; rfl) (by decide) rfl (fun ls hl => ?_)
                      obtain ⟨v_23, ev_23⟩ : ∃ y : Int32, y = k4 + (-1) := ⟨_, rfl⟩
                      refine lv_iinc (v := v_23) (lv' := [(4, .int v_23), (3, .int v_22), (0, .ref h2)]) hx hb dX2_toNext_107 hl (k := 2) rfl (by rw [ev_23]; rfl) (by decide) rfl (fun ls hl => ?_)
                      refine lv_goto (tgt := 91) hx hb dX2_toNext_110 (by decide) ?_
                      exact hOut _ _ _ _ _ (ih_91 v_22 v_23 f2_20 _ _ _ (pf_X2_toNext_15 ln f v_1 n_7 k v_4 v_5 v_6 v_9 n_47 k2 f2_13 v_15 v_16 n_91 k3 k4 fa f2_20 v_22 v_23 hl0 hl1 hr0 ev_1 hn_7 h1k hlo hpv c_2 ev_4 ev_5 ev_6 c_7 c_8 ev_9 hn_47 h0k h2k h3k hsj c_10 w_12 ev_15 ev_16 hn_91 h4k h5k h6k hra hl3 hsm h34 hfa c_17 w_19 ev_22 ev_23) (pf_X2_toNext_16 ln f v_1 n_7 k v_4 v_5 v_6 v_9 n_47 k2 f2_13 v_15 v_16 n_91 k3 k4 fa f2_20 v_22 v_23 hl0 hl1 hr0 ev_1 hn_7 h1k hlo hpv c_2 ev_4 ev_5 ev_6 c_7 c_8 ev_9 hn_47 h0k h2k h3k hsj c_10 w_12 ev_15 ev_16 hn_91 h4k h5k h6k hra hl3 hsm h34 hfa c_17 w_19 ev_22 ev_23) (pf_X2_toNext_17 ln f v_1 n_7 k v_4 v_5 v_6 v_9 n_47 k2 f2_13 v_15 v_16 n_91 k3 k4 fa f2_20 v_22 v_23 hl0 hl1 hr0 ev_1 hn_7 h1k hlo hpv c_2 ev_4 ev_5 ev_6 c_7 c_8 ev_9 hn_47 h0k h2k h3k hsj c_10 w_12 ev_15 ev_16 hn_91 h4k h5k h6k hra hl3 hsm h34 hfa c_17 w_19 ev_22 ev_23) (pf_X2_toNext_18 ln f v_1 n_7 k v_4 v_5 v_6 v_9 n_47 k2 f2_13 v_15 v_16 n_91 k3 k4 fa f2_20 v_22 v_23 hl0 hl1 hr0 ev_1 hn_7 h1k hlo hpv c_2 ev_4 ev_5 ev_6 c_7 c_8 ev_9 hn_47 h0k h2k h3k hsj c_10 w_12 ev_15 ev_16 hn_91 h4k h5k h6k hra hl3 hsm h34 hfa c_17 w_19 ev_22 ev_23) (pf_X2_toNext_19 ln f v_1 n_7 k v_4 v_5 v_6 v_9 n_47 k2 f2_13 v_15 v_16 n_91 k3 k4 fa f2_20 v_22 v_23 hl0 hl1 hr0 ev_1 hn_7 h1k hlo hpv c_2 ev_4 ev_5 ev_6 c_7 c_8 ev_9 hn_47 h0k h2k h3k hsj c_10 w_12 ev_15 ev_16 hn_91 h4k h5k h6k hra hl3 hsm h34 hfa c_17 w_19 ev_22 ev_23) (pf_X2_toNext_20 ln f v_1 n_7 k v_4 v_5 v_6 v_9 n_47 k2 f2_13 v_15 v_16 n_91 k3 k4 fa f2_20 v_22 v_23 hl0 hl1 hr0 ev_1 hn_7 h1k hlo hpv c_2 ev_4 ev_5 ev_6 c_7 c_8 ev_9 hn_47 h0k h2k h3k hsj c_10 w_12 ev_15 ev_16 hn_91 h4k h5k h6k hra hl3 hsm h34 hfa c_17 w_19 ev_22 ev_23) (pf_X2_toNext_21 ln f v_1 n_7 k v_4 v_5 v_6 v_9 n_47 k2 f2_13 v_15 v_16 n_91 k3 k4 fa f2_20 v_22 v_23 hl0 hl1 hr0 ev_1 hn_7 h1k hlo hpv c_2 ev_4 ev_5 ev_6 c_7 c_8 ev_9 hn_47 h0k h2k h3k hsj c_10 w_12 ev_15 ev_16 hn_91 h4k h5k h6k hra hl3 hsm h34 hfa c_17 w_19 ev_22 ev_23) (pf_X2_toNext_22 ln f v_1 n_7 k v_4 v_5 v_6 v_9 n_47 k2 f2_13 v_15 v_16 n_91 k3 k4 fa f2_20 v_22 v_23 hl0 hl1 hr0 ev_1 hn_7 h1k hlo hpv c_2 ev_4 ev_5 ev_6 c_7 c_8 ev_9 hn_47 h0k h2k h3k hsj c_10 w_12 ev_15 ev_16 hn_91 h4k h5k h6k hra hl3 hsm h34 hfa c_17 w_19 ev_22 ev_23) (pf_X2_toNext_23 ln f v_1 n_7 k v_4 v_5 v_6 v_9 n_47 k2 f2_13 v_15 v_16 n_91 k3 k4 fa f2_20 v_22 v_23 hl0 hl1 hr0 ev_1 hn_7 h1k hlo hpv c_2 ev_4 ev_5 ev_6 c_7 c_8 ev_9 hn_47 h0k h2k h3k hsj c_10 w_12 ev_15 ev_16 hn_91 h4k h5k h6k hra hl3 hsm h34 hfa c_17 w_19 ev_22 ev_23) (hP.sub [0, 1] rfl) (hD.sub [0, 1] (by decide) rfl) hS (lv_sub hl [2, 1, 0] rfl))
                exact hOut _ _ _ _ _ (lp_91 (10 - v_15.toNatClampNeg + 1) v_15 v_16 f2_13 _ _ _ (Nat.lt_succ_self _) (pf_X2_toNext_24 ln f v_1 n_7 k v_4 v_5 v_6 v_9 n_47 k2 f2_13 v_15 v_16 hl0 hl1 hr0 ev_1 hn_7 h1k hlo hpv c_2 ev_4 ev_5 ev_6 c_7 c_8 ev_9 hn_47 h0k h2k h3k hsj c_10 w_12 ev_15 ev_16) (pf_X2_toNext_25 ln f v_1 n_7 k v_4 v_5 v_6 v_9 n_47 k2 f2_13 v_15 v_16 hl0 hl1 hr0 ev_1 hn_7 h1k hlo hpv c_2 ev_4 ev_5 ev_6 c_7 c_8 ev_9 hn_47 h0k h2k h3k hsj c_10 w_12 ev_15 ev_16) (pf_X2_toNext_26 ln f v_1 n_7 k v_4 v_5 v_6 v_9 n_47 k2 f2_13 v_15 v_16 hl0 hl1 hr0 ev_1 hn_7 h1k hlo hpv c_2 ev_4 ev_5 ev_6 c_7 c_8 ev_9 hn_47 h0k h2k h3k hsj c_10 w_12 ev_15 ev_16) (pf_X2_toNext_27 ln f v_1 n_7 k v_4 v_5 v_6 v_9 n_47 k2 f2_13 v_15 v_16 hl0 hl1 hr0 ev_1 hn_7 h1k hlo hpv c_2 ev_4 ev_5 ev_6 c_7 c_8 ev_9 hn_47 h0k h2k h3k hsj c_10 w_12 ev_15 ev_16) (pf_X2_toNext_28 ln f v_1 n_7 k v_4 v_5 v_6 v_9 n_47 k2 f2_13 v_15 v_16 hl0 hl1 hr0 ev_1 hn_7 h1k hlo hpv c_2 ev_4 ev_5 ev_6 c_7 c_8 ev_9 hn_47 h0k h2k h3k hsj c_10 w_12 ev_15 ev_16) (pf_X2_toNext_29 ln f v_1 n_7 k v_4 v_5 v_6 v_9 n_47 k2 f2_13 v_15 v_16 hl0 hl1 hr0 ev_1 hn_7 h1k hlo hpv c_2 ev_4 ev_5 ev_6 c_7 c_8 ev_9 hn_47 h0k h2k h3k hsj c_10 w_12 ev_15 ev_16) (pf_X2_toNext_30 ln f v_1 n_7 k v_4 v_5 v_6 v_9 n_47 k2 f2_13 v_15 v_16 hl0 hl1 hr0 ev_1 hn_7 h1k hlo hpv c_2 ev_4 ev_5 ev_6 c_7 c_8 ev_9 hn_47 h0k h2k h3k hsj c_10 w_12 ev_15 ev_16) (pf_X2_toNext_31 ln f v_1 n_7 k v_4 v_5 v_6 v_9 n_47 k2 f2_13 v_15 v_16 hl0 hl1 hr0 ev_1 hn_7 h1k hlo hpv c_2 ev_4 ev_5 ev_6 c_7 c_8 ev_9 hn_47 h0k h2k h3k hsj c_10 w_12 ev_15 ev_16) (hP.sub [0, 1] rfl) (hD.sub [0, 1] (by decide) rfl) hS (lv_sub hl [2, 1, 0] rfl))
              · refine lv_aload_n hx hb dX2_toNext_52 rfl (lv_at hl 0 rfl) ?_
                refine va_get (D := D) (ci := 2) (v := .ref s0) (C := RX2) (T := TX2) (N := 2) hx hb hts iw_X2_toNext_2 hown hK hP 0 rfl rfl 0 (by decide) (hts _ wd_X2_toNext_2) (fun _ h9 => h9) rfl dX2_toNext_53 ?_
                refine lv_iload_n hx hb dX2_toNext_56 rfl (lv_at hl 2 rfl) ?_
                refine va_iald hx hb hK hP 1 0 rfl rfl (pf_X2_toNext_32 ln f v_1 n_7 k v_4 v_5 v_6 v_9 n_47 k2 hl0 hl1 hr0 ev_1 hn_7 h1k hlo hpv c_2 ev_4 ev_5 ev_6 c_7 c_8 ev_9 hn_47 h0k h2k h3k hsj c_10) dX2_toNext_57 ?_
                refine lv_topi (fun v_24 ev_24 => ?_)
                refine lv_aload_n hx hb dX2_toNext_58 rfl (lv_at hl 0 rfl) ?_
                refine va_get (D := D) (ci := 2) (v := .ref s0) (C := RX2) (T := TX2) (N := 2) hx hb hts iw_X2_toNext_2 hown hK hP 0 rfl rfl 0 (by decide) (hts _ wd_X2_toNext_2) (fun _ h9 => h9) rfl dX2_toNext_59 ?_
                refine lv_iload_n hx hb dX2_toNext_62 rfl (lv_at hl 1 rfl) ?_
                refine va_iald hx hb hK hP 1 0 rfl rfl (pf_X2_toNext_33 ln f v_1 n_7 k v_4 v_5 v_6 v_9 n_47 k2 v_24 hl0 hl1 hr0 ev_1 hn_7 h1k hlo hpv c_2 ev_4 ev_5 ev_6 c_7 c_8 ev_9 hn_47 h0k h2k h3k hsj c_10 ev_24) dX2_toNext_63 ?_
                refine lv_topi (fun v_25 ev_25 => ?_)
                refine lv_icmp_ge (tgt := 73) hx hb dX2_toNext_64 (by decide) (fun c_26 => ?_) (fun c_26 => ?_)
                · refine lv_aload_n hx hb dX2_toNext_73 rfl (lv_at hl 0 rfl) ?_
                  refine lv_iload_n hx hb dX2_toNext_74 rfl (lv_at hl 1 rfl) ?_
                  refine lv_iload_n hx hb dX2_toNext_75 rfl (lv_at hl 2 rfl) ?_
                  refine cc_v (wc := [(h2, .inr (2, [.ref s0, .int ln])), (s0, .inl (cI, 10, .inl f))]) (wr := []) (va_runV (As := [.int k, .int k2]) (rest := []) ⟨hx, hb, hml, hown, hts⟩ (c_X2_swap l D cI cQ H.size h2 s0 ln f k k2 (pf_X2_toNext_34 ln f v_1 n_7 k v_4 v_5 v_6 v_9 n_47 k2 v_24 v_25 hl0 hl1 hr0 ev_1 hn_7 h1k hlo hpv c_2 ev_4 ev_5 ev_6 c_7 c_8 ev_9 hn_47 h0k h2k h3k hsj c_10 ev_24 ev_25 c_26) (pf_X2_toNext_35 ln f v_1 n_7 k v_4 v_5 v_6 v_9 n_47 k2 v_24 v_25 hl0 hl1 hr0 ev_1 hn_7 h1k hlo hpv c_2 ev_4 ev_5 ev_6 c_7 c_8 ev_9 hn_47 h0k h2k h3k hsj c_10 ev_24 ev_25 c_26)) (cwV 2 hts gX2_toNext_X2_swap rfl rfl rfl (by decide +kernel) ⟨Nat.le_of_ble_eq_true rfl, Nat.le_of_ble_eq_true rfl⟩) (preV (wc := [(h2, .inr (2, [.ref s0, .int ln])), (s0, .inl (cI, 10, .inl f))]) (ci := 2) (q0 := 0) hK hP hD hN [0, 1] rfl (by decide) rfl rfl) rfl rfl hl.1 rfl (lv_room (Nat.le_of_ble_eq_true rfl)) dX2_toNext_76 ⟨Nat.le_of_ble_eq_true rfl, Nat.le_of_ble_eq_true rfl⟩) hP hD hS hA [0, 1] [] rfl rfl (by decide) (by decide) (fun u H locs w_28 hP hD hS => ?_)
                  obtain ⟨f2_29, rfl⟩ : ∃ z, z = u := ⟨_, rfl⟩
                  have hP : va_P D vwCl [(h2, .inr (2, [.ref s0, .int ln])), (s0, .inl (cI, 10, .inl f2_29))] H := hP
                  have hD : va_D A [(h2, .inr (2, [.ref s0, .int ln])), (s0, .inl (cI, 10, .inl f2_29))] := hD
                  have w_28 : f2_29 = upd (upd f k.toNatClampNeg (f k2.toNatClampNeg)) k2.toNatClampNeg (f k.toNatClampNeg) := w_28
                  refine lv_iload_n hx hb dX2_toNext_79 rfl (lv_at hl 1 rfl) ?_
                  refine lv_iconst (v := 1) hx hb dX2_toNext_80 (by decide) ?_
                  refine lv_iadd hx hb dX2_toNext_81 ?_
                  refine lv_topi (fun v_31 ev_31 => ?_)
                  refine lv_istore_n (lv' := [(3, .int v_31), (0, .ref h2), (1, .int k), (2, .int k2)]) hx hb dX2_toNext_82 rfl hl (by decide) rfl (fun ls hl => ?_)
                  refine lv_aload_n hx hb dX2_toNext_83 rfl (lv_at hl 1 rfl) ?_
                  refine va_get (D := D) (ci := 2) (v := .int ln) (C := RX2) (T := TX2) (N := 2) hx hb hts iw_X2_toNext_2 hown hK hP 0 rfl rfl 1 (by decide) (hts _ wd_X2_toNext_1) (fun _ h9 => h9) rfl dX2_toNext_84 ?_
                  refine lv_iconst (v := 1) hx hb dX2_toNext_87 (by decide) ?_
                  refine lv_isub hx hb dX2_toNext_88 ?_
                  refine lv_topi (fun v_32 ev_32 => ?_)
                  refine lv_istore (lv' := [(4, .int v_32), (3, .int v_31), (0, .ref h2), (1, .int k), (2, .int k2)]) hx hb dX2_toNext_89 hl (by decide) rfl (fun ls hl => ?_)
                  have lp_91 : ∀ (n : Nat) (k3 : Int32) (k4 : Int32) (fa : Nat → Int32) (H : Heap) (locs : List Loc) (ls : Array Slot), 10 - k3.toNatClampNeg < n → (1 ≤ k3) → (k4 < ln) → (k3 ≤ 20) → (okRow fa ln) → (k + 1 ≤ k3) → (k3 + k4 = k + ln) → (k3 ≤ k4 + 1) → (fa = rvP f2_29 (k + 1).toNatClampNeg (ln.toNatClampNeg - 1) k3.toNatClampNeg k4.toNatClampNeg) → va_P D vwCl [(h2, .inr (2, [.ref s0, .int ln])), (s0, .inl (cI, 10, .inl fa))] H → va_D A [(h2, .inr (2, [.ref s0, .int ln])), (s0, .inl (cI, 10, .inl fa))] → va_S A s.heap H locs → lv_has ls 5 [(0, .ref h2), (3, .int k3), (4, .int k4)] → GW H locs 0 0 (F0 m 91 ls []) := by
                    intro n_91
                    induction n_91 with
                    | zero => intro k3 k4 fa H locs ls hn_91; exact absurd hn_91 (Nat.not_lt_zero _)
                    | succ n_91 ih_91 =>
                      intro k3 k4 fa H locs ls hn_91 h4k h5k h6k hra hl3 hsm h34 hfa hP hD hS hl
                      refine hIn _ _ _ _ _ ?_
                      refine lv_iload_n hx hb dX2_toNext_91 rfl (lv_at hl 1 rfl) ?_
                      refine lv_iload hx hb dX2_toNext_92 (lv_at hl 2 rfl) ?_
                      refine lv_icmp_ge (tgt := 113) hx hb dX2_toNext_94 (by decide) (fun c_33 => ?_) (fun c_33 => ?_)
                      · refine lv_iconst (v := 1) hx hb dX2_toNext_113 (by decide) ?_
                        refine W.widen (k := 0) (n := 0) (Nat.le_of_ble_eq_true rfl) (Nat.le_of_ble_eq_true rfl) ?_
                        exact fi_z fa hx hb hr rfl hlocks hK (hP.sub [0, 1] rfl) (hD.sub [0, 1] (by decide) rfl) hS ⟨(pf_X2_toNext_36 ln f v_1 n_7 k v_4 v_5 v_6 v_9 n_47 k2 v_24 v_25 f2_29 v_31 v_32 n_91 k3 k4 fa hl0 hl1 hr0 ev_1 hn_7 h1k hlo hpv c_2 ev_4 ev_5 ev_6 c_7 c_8 ev_9 hn_47 h0k h2k h3k hsj c_10 ev_24 ev_25 c_26 w_28 ev_31 ev_32 hn_91 h4k h5k h6k hra hl3 hsm h34 hfa c_33), (pf_X2_toNext_37 ln f v_1 n_7 k v_4 v_5 v_6 v_9 n_47 k2 v_24 v_25 f2_29 v_31 v_32 n_91 k3 k4 fa hl0 hl1 hr0 ev_1 hn_7 h1k hlo hpv c_2 ev_4 ev_5 ev_6 c_7 c_8 ev_9 hn_47 h0k h2k h3k hsj c_10 ev_24 ev_25 c_26 w_28 ev_31 ev_32 hn_91 h4k h5k h6k hra hl3 hsm h34 hfa c_33), (pf_X2_toNext_38 ln f v_1 n_7 k v_4 v_5 v_6 v_9 n_47 k2 v_24 v_25 f2_29 v_31 v_32 n_91 k3 k4 fa hl0 hl1 hr0 ev_1 hn_7 h1k hlo hpv c_2 ev_4 ev_5 ev_6 c_7 c_8 ev_9 hn_47 h0k h2k h3k hsj c_10 ev_24 ev_25 c_26 w_28 ev_31 ev_32 hn_91 h4k h5k h6k hra hl3 hsm h34 hfa c_33)⟩ dX2_toNext_114
                      · refine lv_aload_n hx hb dX2_toNext_97 rfl (lv_at hl 0 rfl) ?_
                        refine lv_iload_n hx hb dX2_toNext_98 rfl (lv_at hl 1 rfl) ?_
                        refine lv_iload hx hb dX2_toNext_99 (lv_at hl 2 rfl) ?_
                        refine cc_v (wc := [(h2, .inr (2, [.ref s0, .int ln])), (s0, .inl (cI, 10, .inl fa))]) (wr := []) (va_runV (As := [.int k3, .int k4]) (rest := []) ⟨hx, hb, hml, hown, hts⟩ (c_X2_swap l D cI cQ H.size h2 s0 ln fa k3 k4 (pf_X2_toNext_39 ln f v_1 n_7 k v_4 v_5 v_6 v_9 n_47 k2 v_24 v_25 f2_29 v_31 v_32 n_91 k3 k4 fa hl0 hl1 hr0 ev_1 hn_7 h1k hlo hpv c_2 ev_4 ev_5 ev_6 c_7 c_8 ev_9 hn_47 h0k h2k h3k hsj c_10 ev_24 ev_25 c_26 w_28 ev_31 ev_32 hn_91 h4k h5k h6k hra hl3 hsm h34 hfa c_33) (pf_X2_toNext_40 ln f v_1 n_7 k v_4 v_5 v_6 v_9 n_47 k2 v_24 v_25 f2_29 v_31 v_32 n_91 k3 k4 fa hl0 hl1 hr0 ev_1 hn_7 h1k hlo hpv c_2 ev_4 ev_5 ev_6 c_7 c_8 ev_9 hn_47 h0k h2k h3k hsj c_10 ev_24 ev_25 c_26 w_28 ev_31 ev_32 hn_91 h4k h5k h6k hra hl3 hsm h34 hfa c_33)) (cwV 2 hts gX2_toNext_X2_swap rfl rfl rfl (by decide +kernel) ⟨Nat.le_of_ble_eq_true rfl, Nat.le_of_ble_eq_true rfl⟩) (preV (wc := [(h2, .inr (2, [.ref s0, .int ln])), (s0, .inl (cI, 10, .inl fa))]) (ci := 2) (q0 := 0) hK hP hD hN [0, 1] rfl (by decide) rfl rfl) rfl rfl hl.1 rfl (lv_room (Nat.le_of_ble_eq_true rfl)) dX2_toNext_101 ⟨Nat.le_of_ble_eq_true rfl, Nat.le_of_ble_eq_true rfl⟩) hP hD hS hA [0, 1] [] rfl rfl (by decide) (by decide) (fun u H locs w_35 hP hD hS => ?_)
                        obtain ⟨f2_36, rfl⟩ : ∃ z, z = u := ⟨_, rfl⟩
                        have hP : va_P D vwCl [(h2, .inr (2, [.ref s0, .int ln])), (s0, .inl (cI, 10, .inl f2_36))] H := hP
                        have hD : va_D A [(h2, .inr (2, [.ref s0, .int ln])), (s0, .inl (cI, 10, .inl f2_36))] := hD
                        have w_35 : f2_36 = upd (upd fa k3.toNatClampNeg (fa k4.toNatClampNeg)) k4.toNatClampNeg (fa k3.toNatClampNeg) := w_35
                        obtain ⟨v_38, ev_38⟩ : ∃ y : Int32, y = k3 + 1 := ⟨_, rfl⟩
                        refine lv_iinc (v := v_38) (lv' := [(3, .int v_38), (0, .ref h2), (4, .int k4)]) hx hb dX2_toNext_104 hl (k := 1) rfl (by rw [ev_38]; rfl) (by decide) rfl (fun ls hl => ?_)
                        obtain ⟨v_39, ev_39⟩ : ∃ y : Int32, y = k4 + (-1) := ⟨_, rfl⟩
                        refine lv_iinc (v := v_39) (lv' := [(4, .int v_39), (3, .int v_38), (0, .ref h2)]) hx hb dX2_toNext_107 hl (k := 2) rfl (by rw [ev_39]; rfl) (by decide) rfl (fun ls hl => ?_)
                        refine lv_goto (tgt := 91) hx hb dX2_toNext_110 (by decide) ?_
                        exact hOut _ _ _ _ _ (ih_91 v_38 v_39 f2_36 _ _ _ (pf_X2_toNext_41 ln f v_1 n_7 k v_4 v_5 v_6 v_9 n_47 k2 v_24 v_25 f2_29 v_31 v_32 n_91 k3 k4 fa f2_36 v_38 v_39 hl0 hl1 hr0 ev_1 hn_7 h1k hlo hpv c_2 ev_4 ev_5 ev_6 c_7 c_8 ev_9 hn_47 h0k h2k h3k hsj c_10 ev_24 ev_25 c_26 w_28 ev_31 ev_32 hn_91 h4k h5k h6k hra hl3 hsm h34 hfa c_33 w_35 ev_38 ev_39) (pf_X2_toNext_42 ln f v_1 n_7 k v_4 v_5 v_6 v_9 n_47 k2 v_24 v_25 f2_29 v_31 v_32 n_91 k3 k4 fa f2_36 v_38 v_39 hl0 hl1 hr0 ev_1 hn_7 h1k hlo hpv c_2 ev_4 ev_5 ev_6 c_7 c_8 ev_9 hn_47 h0k h2k h3k hsj c_10 ev_24 ev_25 c_26 w_28 ev_31 ev_32 hn_91 h4k h5k h6k hra hl3 hsm h34 hfa c_33 w_35 ev_38 ev_39) (pf_X2_toNext_43 ln f v_1 n_7 k v_4 v_5 v_6 v_9 n_47 k2 v_24 v_25 f2_29 v_31 v_32 n_91 k3 k4 fa f2_36 v_38 v_39 hl0 hl1 hr0 ev_1 hn_7 h1k hlo hpv c_2 ev_4 ev_5 ev_6 c_7 c_8 ev_9 hn_47 h0k h2k h3k hsj c_10 ev_24 ev_25 c_26 w_28 ev_31 ev_32 hn_91 h4k h5k h6k hra hl3 hsm h34 hfa c_33 w_35 ev_38 ev_39) (pf_X2_toNext_44 ln f v_1 n_7 k v_4 v_5 v_6 v_9 n_47 k2 v_24 v_25 f2_29 v_31 v_32 n_91 k3 k4 fa f2_36 v_38 v_39 hl0 hl1 hr0 ev_1 hn_7 h1k hlo hpv c_2 ev_4 ev_5 ev_6 c_7 c_8 ev_9 hn_47 h0k h2k h3k hsj c_10 ev_24 ev_25 c_26 w_28 ev_31 ev_32 hn_91 h4k h5k h6k hra hl3 hsm h34 hfa c_33 w_35 ev_38 ev_39) (pf_X2_toNext_45 ln f v_1 n_7 k v_4 v_5 v_6 v_9 n_47 k2 v_24 v_25 f2_29 v_31 v_32 n_91 k3 k4 fa f2_36 v_38 v_39 hl0 hl1 hr0 ev_1 hn_7 h1k hlo hpv c_2 ev_4 ev_5 ev_6 c_7 c_8 ev_9 hn_47 h0k h2k h3k hsj c_10 ev_24 ev_25 c_26 w_28 ev_31 ev_32 hn_91 h4k h5k h6k hra hl3 hsm h34 hfa c_33 w_35 ev_38 ev_39) (pf_X2_toNext_46 ln f v_1 n_7 k v_4 v_5 v_6 v_9 n_47 k2 v_24 v_25 f2_29 v_31 v_32 n_91 k3 k4 fa f2_36 v_38 v_39 hl0 hl1 hr0 ev_1 hn_7 h1k hlo hpv c_2 ev_4 ev_5 ev_6 c_7 c_8 ev_9 hn_47 h0k h2k h3k hsj c_10 ev_24 ev_25 c_26 w_28 ev_31 ev_32 hn_91 h4k h5k h6k hra hl3 hsm h34 hfa c_33 w_35 ev_38 ev_39) (pf_X2_toNext_47 ln f v_1 n_7 k v_4 v_5 v_6 v_9 n_47 k2 v_24 v_25 f2_29 v_31 v_32 n_91 k3 k4 fa f2_36 v_38 v_39 hl0 hl1 hr0 ev_1 hn_7 h1k hlo hpv c_2 ev_4 ev_5 ev_6 c_7 c_8 ev_9 hn_47 h0k h2k h3k hsj c_10 ev_24 ev_25 c_26 w_28 ev_31 ev_32 hn_91 h4k h5k h6k hra hl3 hsm h34 hfa c_33 w_35 ev_38 ev_39) (pf_X2_toNext_48 ln f v_1 n_7 k v_4 v_5 v_6 v_9 n_47 k2 v_24 v_25 f2_29 v_31 v_32 n_91 k3 k4 fa f2_36 v_38 v_39 hl0 hl1 hr0 ev_1 hn_7 h1k hlo hpv c_2 ev_4 ev_5 ev_6 c_7 c_8 ev_9 hn_47 h0k h2k h3k hsj c_10 ev_24 ev_25 c_26 w_28 ev_31 ev_32 hn_91 h4k h5k h6k hra hl3 hsm h34 hfa c_33 w_35 ev_38 ev_39) (pf_X2_toNext_49 ln f v_1 n_7 k v_4 v_5 v_6 v_9 n_47 k2 v_24 v_25 f2_29 v_31 v_32 n_91 k3 k4 fa f2_36 v_38 v_39 hl0 hl1 hr0 ev_1 hn_7 h1k hlo hpv c_2 ev_4 ev_5 ev_6 c_7 c_8 ev_9 hn_47 h0k h2k h3k hsj c_10 ev_24 ev_25 c_26 w_28 ev_31 ev_32 hn_91 h4k h5k h6k hra hl3 hsm h34 hfa c_33 w_35 ev_38 ev_39) (hP.sub [0, 1] rfl) (hD.sub [0, 1] (by decide) rfl) hS (lv_sub hl [2, 1, 0] rfl))
                  exact hOut _ _ _ _ _ (lp_91 (10 - v_31.toNatClampNeg + 1) v_31 v_32 f2_29 _ _ _ (Nat.lt_succ_self _) (pf_X2_toNext_50 ln f v_1 n_7 k v_4 v_5 v_6 v_9 n_47 k2 v_24 v_25 f2_29 v_31 v_32 hl0 hl1 hr0 ev_1 hn_7 h1k hlo hpv c_2 ev_4 ev_5 ev_6 c_7 c_8 ev_9 hn_47 h0k h2k h3k hsj c_10 ev_24 ev_25 c_26 w_28 ev_31 ev_32) (pf_X2_toNext_51 ln f v_1 n_7 k v_4 v_5 v_6 v_9 n_47 k2 v_24 v_25 f2_29 v_31 v_32 hl0 hl1 hr0 ev_1 hn_7 h1k hlo hpv c_2 ev_4 ev_5 ev_6 c_7 c_8 ev_9 hn_47 h0k h2k h3k hsj c_10 ev_24 ev_25 c_26 w_28 ev_31 ev_32) (pf_X2_toNext_52 ln f v_1 n_7 k v_4 v_5 v_6 v_9 n_47 k2 v_24 v_25 f2_29 v_31 v_32 hl0 hl1 hr0 ev_1 hn_7 h1k hlo hpv c_2 ev_4 ev_5 ev_6 c_7 c_8 ev_9 hn_47 h0k h2k h3k hsj c_10 ev_24 ev_25 c_26 w_28 ev_31 ev_32) (pf_X2_toNext_53 ln f v_1 n_7 k v_4 v_5 v_6 v_9 n_47 k2 v_24 v_25 f2_29 v_31 v_32 hl0 hl1 hr0 ev_1 hn_7 h1k hlo hpv c_2 ev_4 ev_5 ev_6 c_7 c_8 ev_9 hn_47 h0k h2k h3k hsj c_10 ev_24 ev_25 c_26 w_28 ev_31 ev_32) (pf_X2_toNext_54 ln f v_1 n_7 k v_4 v_5 v_6 v_9 n_47 k2 v_24 v_25 f2_29 v_31 v_32 hl0 hl1 hr0 ev_1 hn_7 h1k hlo hpv c_2 ev_4 ev_5 ev_6 c_7 c_8 ev_9 hn_47 h0k h2k h3k hsj c_10 ev_24 ev_25 c_26 w_28 ev_31 ev_32) (pf_X2_toNext_55 ln f v_1 n_7 k v_4 v_5 v_6 v_9 n_47 k2 v_24 v_25 f2_29 v_31 v_32 hl0 hl1 hr0 ev_1 hn_7 h1k hlo hpv c_2 ev_4 ev_5 ev_6 c_7 c_8 ev_9 hn_47 h0k h2k h3k hsj c_10 ev_24 ev_25 c_26 w_28 ev_31 ev_32) (pf_X2_toNext_56 ln f v_1 n_7 k v_4 v_5 v_6 v_9 n_47 k2 v_24 v_25 f2_29 v_31 v_32 hl0 hl1 hr0 ev_1 hn_7 h1k hlo hpv c_2 ev_4 ev_5 ev_6 c_7 c_8 ev_9 hn_47 h0k h2k h3k hsj c_10 ev_24 ev_25 c_26 w_28 ev_31 ev_32) (pf_X2_toNext_57 ln f v_1 n_7 k v_4 v_5 v_6 v_9 n_47 k2 v_24 v_25 f2_29 v_31 v_32 hl0 hl1 hr0 ev_1 hn_7 h1k hlo hpv c_2 ev_4 ev_5 ev_6 c_7 c_8 ev_9 hn_47 h0k h2k h3k hsj c_10 ev_24 ev_25 c_26 w_28 ev_31 ev_32) (hP.sub [0, 1] rfl) (hD.sub [0, 1] (by decide) rfl) hS (lv_sub hl [2, 1, 0] rfl))
                · obtain ⟨v_40, ev_40⟩ : ∃ y : Int32, y = k2 + (-1) := ⟨_, rfl⟩
                  refine lv_iinc (v := v_40) (lv' := [(2, .int v_40), (0, .ref h2), (1, .int k)]) hx hb dX2_toNext_67 hl (k := 2) rfl (by rw [ev_40]; rfl) (by decide) rfl (fun ls hl => ?_)
                  refine lv_goto (tgt := 47) hx hb dX2_toNext_70 (by decide) ?_
                  exact hOut _ _ _ _ _ (ih_47 v_40 _ _ _ (pf_X2_toNext_58 ln f v_1 n_7 k v_4 v_5 v_6 v_9 n_47 k2 v_24 v_25 v_40 hl0 hl1 hr0 ev_1 hn_7 h1k hlo hpv c_2 ev_4 ev_5 ev_6 c_7 c_8 ev_9 hn_47 h0k h2k h3k hsj c_10 ev_24 ev_25 c_26 ev_40) (pf_X2_toNext_59 ln f v_1 n_7 k v_4 v_5 v_6 v_9 n_47 k2 v_24 v_25 v_40 hl0 hl1 hr0 ev_1 hn_7 h1k hlo hpv c_2 ev_4 ev_5 ev_6 c_7 c_8 ev_9 hn_47 h0k h2k h3k hsj c_10 ev_24 ev_25 c_26 ev_40) (pf_X2_toNext_60 ln f v_1 n_7 k v_4 v_5 v_6 v_9 n_47 k2 v_24 v_25 v_40 hl0 hl1 hr0 ev_1 hn_7 h1k hlo hpv c_2 ev_4 ev_5 ev_6 c_7 c_8 ev_9 hn_47 h0k h2k h3k hsj c_10 ev_24 ev_25 c_26 ev_40) (pf_X2_toNext_61 ln f v_1 n_7 k v_4 v_5 v_6 v_9 n_47 k2 v_24 v_25 v_40 hl0 hl1 hr0 ev_1 hn_7 h1k hlo hpv c_2 ev_4 ev_5 ev_6 c_7 c_8 ev_9 hn_47 h0k h2k h3k hsj c_10 ev_24 ev_25 c_26 ev_40) (pf_X2_toNext_62 ln f v_1 n_7 k v_4 v_5 v_6 v_9 n_47 k2 v_24 v_25 v_40 hl0 hl1 hr0 ev_1 hn_7 h1k hlo hpv c_2 ev_4 ev_5 ev_6 c_7 c_8 ev_9 hn_47 h0k h2k h3k hsj c_10 ev_24 ev_25 c_26 ev_40) (hP.sub [0, 1] rfl) (hD.sub [0, 1] (by decide) rfl) hS (lv_sub hl [1, 2, 0] rfl))
          exact hOut _ _ _ _ _ (lp_47 (v_9.toNatClampNeg + 1) v_9 _ _ _ (Nat.lt_succ_self _) (pf_X2_toNext_63 ln f v_1 n_7 k v_4 v_5 v_6 v_9 hl0 hl1 hr0 ev_1 hn_7 h1k hlo hpv c_2 ev_4 ev_5 ev_6 c_7 c_8 ev_9) (pf_X2_toNext_64 ln f v_1 n_7 k v_4 v_5 v_6 v_9 hl0 hl1 hr0 ev_1 hn_7 h1k hlo hpv c_2 ev_4 ev_5 ev_6 c_7 c_8 ev_9) (pf_X2_toNext_65 ln f v_1 n_7 k v_4 v_5 v_6 v_9 hl0 hl1 hr0 ev_1 hn_7 h1k hlo hpv c_2 ev_4 ev_5 ev_6 c_7 c_8 ev_9) (pf_X2_toNext_66 ln f v_1 n_7 k v_4 v_5 v_6 v_9 hl0 hl1 hr0 ev_1 hn_7 h1k hlo hpv c_2 ev_4 ev_5 ev_6 c_7 c_8 ev_9) (hP.sub [0, 1] rfl) (hD.sub [0, 1] (by decide) rfl) hS (lv_sub hl [1, 2, 0] rfl))
        · obtain ⟨v_41, ev_41⟩ : ∃ y : Int32, y = k + (-1) := ⟨_, rfl⟩
          refine lv_iinc (v := v_41) (lv' := [(1, .int v_41), (0, .ref h2)]) hx hb dX2_toNext_28 hl (k := 1) rfl (by rw [ev_41]; rfl) (by decide) rfl (fun ls hl => ?_)
          refine lv_goto (tgt := 7) hx hb dX2_toNext_31 (by decide) ?_
          exact hOut _ _ _ _ _ (ih_7 v_41 _ _ _ (pf_X2_toNext_67 ln f v_1 n_7 k v_4 v_5 v_6 v_41 hl0 hl1 hr0 ev_1 hn_7 h1k hlo hpv c_2 ev_4 ev_5 ev_6 c_7 ev_41) (pf_X2_toNext_68 ln f v_1 n_7 k v_4 v_5 v_6 v_41 hl0 hl1 hr0 ev_1 hn_7 h1k hlo hpv c_2 ev_4 ev_5 ev_6 c_7 ev_41) (pf_X2_toNext_69 ln f v_1 n_7 k v_4 v_5 v_6 v_41 hl0 hl1 hr0 ev_1 hn_7 h1k hlo hpv c_2 ev_4 ev_5 ev_6 c_7 ev_41) (pf_X2_toNext_70 ln f v_1 n_7 k v_4 v_5 v_6 v_41 hl0 hl1 hr0 ev_1 hn_7 h1k hlo hpv c_2 ev_4 ev_5 ev_6 c_7 ev_41) (hP.sub [0, 1] rfl) (hD.sub [0, 1] (by decide) rfl) hS (lv_sub hl [1, 0] rfl))
  exact hOut _ _ _ _ _ (lp_7 ((v_1 + 1).toNatClampNeg + 1) v_1 _ _ _ (Nat.lt_succ_self _) (pf_X2_toNext_71 ln f v_1 hl0 hl1 hr0 ev_1) (pf_X2_toNext_72 ln f v_1 hl0 hl1 hr0 ev_1) (pf_X2_toNext_73 ln f v_1 hl0 hl1 hr0 ev_1) (hP.sub [0, 1] rfl) (hD.sub [0, 1] (by decide) rfl) hS (lv_sub hl [1, 0] rfl))
